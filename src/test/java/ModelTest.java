import java.util.Random;

/** All promises: long rows of calls, drawn by a fixed number, on the program and on the model, answer by answer. */
public final class ModelTest {
    private static final String[] NAMES = {"write", "wipe", "fault", "lay", "town", "crew", "believes", "asks", "pass", "way",
        "hire", "land", "raise", "undo", "behind", "fire", "best", "rests", "walled", "together", "found", "forget", "hoard",
        "whose", "springs", "keep", "back", "count"};
    private static final int[] ODD = {-2, -1, 0, 1, 2, 3, 4, 5, 6, 7, 9, 10, 11, 19, 20, 21, 30, 31, 99, 100, 127,
        999, 1000, 9999, 10000, Integer.MIN_VALUE, Integer.MAX_VALUE};
    /** How often each call comes, in the order of NAMES: those that change the river more often. */
    private static final int[] OFTEN = {1, 1, 1, 1, 8, 4, 6, 5, 6, 7, 5, 2, 6, 6, 6, 4, 4, 3, 3, 4, 4, 1, 3, 4, 4, 3, 2, 4};
    private static final int CALLS = 512;
    private static final Check CHECK = new Check("ModelTest");

    private final Random random;
    private final PaidToGoAway program = new PaidToGoAway();
    private final Model model = new Model();
    private final int seed;
    private int calls;

    private ModelTest(int seed) {
        this.seed = seed;
        random = new Random(seed);
    }

    private static int ofProgram(PaidToGoAway x, int which, int a, int b, int c) {
        switch (which) {
            case 0: return x.write(a);
            case 1: return x.wipe();
            case 2: return x.fault();
            case 3: return x.lay();
            case 4: return x.town(a, b);
            case 5: return x.crew(a, b);
            case 6: return x.believes(a, b);
            case 7: return x.asks(a, b);
            case 8: return x.pass(a);
            case 9: return x.way(a, b);
            case 10: return x.hire(a, b, c);
            case 11: return x.land(a, b);
            case 12: return x.raise(a, b);
            case 13: return x.undo();
            case 14: return x.behind(a, b, c);
            case 15: return x.fire(a);
            case 16: return x.best(a, b, c);
            case 17: return x.rests(a, b, c);
            case 18: return x.walled(a, b);
            case 19: return x.together(a, b);
            case 20: return x.found(a, b, c);
            case 21: return x.forget();
            case 22: return x.hoard(a, b);
            case 23: return x.whose(a, b, c);
            case 24: return x.springs(a, b, c);
            case 25: return x.keep();
            case 26: return x.back();
            default: return x.count(a);
        }
    }

    private void call(int which, int a, int b, int c) {
        calls++;
        CHECK.due("row " + seed + ", call " + calls + ", " + NAMES[which] + " " + a + " " + b + " " + c,
            ofProgram(program, which, a, b, c), model.call(which, a, b, c));
    }

    private int below(int n) {
        return random.nextInt(n);
    }

    private String text() {
        StringBuilder all = new StringBuilder();
        int towns = 1 + below(6);
        boolean rich = below(2) == 0;
        for (int t = 0; t < towns; t++) {
            all.append('t').append(below(4)).append(',').append(rich ? 40 + below(60) : below(60)).append(',')
                .append(below(31)).append(',').append(below(10)).append(';');
        }
        int crews = 1 + below(3);
        for (int c = 0; c < crews; c++) {
            all.append('c').append(1 + below(60)).append(',').append(1 + below(rich ? 30 : 60)).append(';');
        }
        for (int w = below(8); w > 0; w--) {
            all.append('w').append(below(towns)).append(',').append(below(4)).append(';');
        }
        if (below(2) == 0) {
            all.append('b').append(1 + below(30)).append(';');
        }
        for (int spoilt = below(4) == 0 ? 1 + below(2) : 0; spoilt > 0; spoilt--) {
            all.setCharAt(below(all.length()), "0123456789,;tcwb x".charAt(below(18)));
        }
        return all.toString();
    }

    private void writeAndLay() {
        call(1, 0, 0, 0);
        String text = text();
        for (int i = 0; i < text.length(); i++) {
            call(0, text.charAt(i), 0, 0);
        }
        call(2, 0, 0, 0);
        call(3, 0, 0, 0);
    }

    /** A number that the call's place may well take; now and then any. */
    private int number(int which, int place) {
        if (below(14) == 0) {
            return ODD[below(ODD.length)];
        }
        int[][] bounds = {{100, 1, 1}, {1, 1, 1}, {1, 1, 1}, {1, 1, 1}, {6, 7, 1}, {3, 3, 1}, {3, 6, 1}, {3, 6, 1}, {4, 1, 1},
            {6, 4, 1}, {6, 3, 3}, {6, 3, 1}, {6, 6, 1}, {1, 1, 1}, {31, 6, 4}, {2, 1, 1}, {6, 5, 6}, {6, 6, 2}, {6, 21, 1},
            {6, 2, 1}, {6, 21, 150}, {1, 1, 1}, {6, 2, 1}, {6, 21, 200}, {10000, 31, 2}, {1, 1, 1}, {1, 1, 1}, {10, 1, 1}};
        int number = below(bounds[which][place]);
        return which == 16 && place == 2 ? number - 1 : which == 8 ? number + 1 : number;
    }

    /** What would be found were the river let go by: so that some hoards are left. */
    private int silverToFind(int t, int spring) {
        int would = program.behind(spring, t, 0);
        calls++;
        return would < 0 || below(3) == 0 ? below(100) : would;
    }

    private void drawnCall() {
        int all = 0;
        for (int often : OFTEN) {
            all += often;
        }
        int at = below(all);
        int which = 0;
        while (at >= OFTEN[which]) {
            at -= OFTEN[which++];
        }
        int a = number(which, 0);
        int b = number(which, 1);
        int c = number(which, 2);
        if (which == 3 && below(4) != 0) {
            return;
        }
        if (which == 20) {
            c = silverToFind(a, b);
        }
        call(which, a, b, c);
    }

    private void row() {
        if (seed % 8 != 0) {
            writeAndLay();
        }
        for (int i = 0; i < 6 && seed % 2 == 1; i++) {
            int t = below(6);
            int spring = 1 + below(6);
            call(20, t, spring, silverToFind(t, spring));
            call(22, below(6), below(2), 0);
        }
        // "An object is used for at most 512 calls": the last of them answers as well as the first.
        while (calls < CALLS - 1) {
            drawnCall();
        }
        while (calls < CALLS) {
            call(27, 5, 0, 0);
        }
    }

    public static void main(String[] args) {
        int rows = args.length > 0 ? Integer.parseInt(args[0]) : 1500;
        for (int seed = 0; seed < rows; seed++) {
            new ModelTest(seed).row();
        }
        CHECK.end();
    }
}
