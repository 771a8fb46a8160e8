/** Counts answers that are due and those that are not, for the tests of this folder. */
final class Check {
    static final int BAD = -1, NO = -2, FULL = -3, NONE = -4;
    /** Numbers that no call takes for anything. */
    static final int[] FAR = {Integer.MIN_VALUE, Integer.MIN_VALUE + 1, -1000, Integer.MAX_VALUE};

    private final String name;
    private int good;
    private int wrong;

    Check(String name) {
        this.name = name;
    }

    void due(String what, long got, long want) {
        if (got == want) {
            good++;
        } else {
            wrong++;
            System.out.println(name + ": " + what + " answered " + got + ", due is " + want);
        }
    }

    void end() {
        System.out.println(name + ": " + good + " answers as due, " + wrong + " not");
        if (wrong != 0 || good == 0) {
            System.exit(1);
        }
    }

    static PaidToGoAway written(String text) {
        PaidToGoAway x = new PaidToGoAway();
        write(x, text);
        return x;
    }

    static void write(PaidToGoAway x, String text) {
        for (int i = 0; i < text.length(); i++) {
            x.write(text.charAt(i));
        }
    }

    static PaidToGoAway laid(String text) {
        PaidToGoAway x = written(text);
        if (x.lay() < 1) {
            throw new IllegalStateException("a test's own text is not laid: " + text);
        }
        return x;
    }

    /** All that the face tells of how things stand, so that two states can be held against each other. */
    static String state(PaidToGoAway x) {
        StringBuilder all = new StringBuilder();
        for (int what = 0; what <= 9; what++) {
            all.append(x.count(what)).append(what == 9 ? '\n' : ' ');
        }
        int towns = x.count(0);
        int crews = x.count(1);
        for (int t = 0; t < towns; t++) {
            for (int what = 0; what <= 6; what++) {
                all.append(x.town(t, what)).append(what == 6 ? '\n' : ' ');
            }
        }
        for (int c = 0; c < crews; c++) {
            all.append(x.crew(c, 0)).append(' ').append(x.crew(c, 1)).append(' ').append(x.crew(c, 2));
            for (int t = 0; t < towns; t++) {
                all.append(' ').append(x.believes(c, t));
            }
            all.append('\n');
        }
        return all.toString();
    }

    /** Less of it, for objects that are asked often: springs gone by, all of towns but their kind, men, who is gone. */
    static String brief(PaidToGoAway x) {
        StringBuilder all = new StringBuilder().append(x.count(2)).append('\n');
        int towns = x.count(0);
        int crews = x.count(1);
        for (int t = 0; t < towns; t++) {
            for (int what = 1; what <= 6; what++) {
                all.append(x.town(t, what)).append(what == 6 ? '\n' : ' ');
            }
        }
        for (int c = 0; c < crews; c++) {
            all.append(x.crew(c, 0)).append(' ').append(x.crew(c, 2)).append('\n');
        }
        return all.toString();
    }

    void same(String what, String got, String want) {
        if (!got.equals(want)) {
            System.out.println("was\n" + want + "is\n" + got);
        }
        due(what, got.equals(want) ? 1 : 0, 1);
    }
}
