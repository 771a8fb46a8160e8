/** Promises 1 to 9: a new object, THE TEXT, what stands. */
public final class RiversTest {
    private static final Check CHECK = new Check("RiversTest");

    private static void due(String what, long got, long want) {
        CHECK.due(what, got, want);
    }

    private static void aNewObject() {
        PaidToGoAway x = new PaidToGoAway();
        int[][] towns = {{0, 60, 8, 2, 0, 0, 0}, {1, 40, 10, 4, 1, 0, 0}, {2, 30, 5, 0, 2, 0, 0}, {0, 80, 12, 1, 3, 0, 0}};
        for (int t = 0; t < 4; t++) {
            for (int what = 0; what <= 6; what++) {
                due("1: town " + t + " " + what, x.town(t, what), towns[t][what]);
            }
        }
        int[][] crews = {{20, 15, 0}, {12, 25, 0}};
        for (int c = 0; c < 2; c++) {
            for (int what = 0; what <= 2; what++) {
                due("1: crew " + c + " " + what, x.crew(c, what), crews[c][what]);
            }
        }
        int[] counts = {4, 2, 0, 0, 0, 210, 0, 0, 0, 0};
        for (int what = 0; what <= 9; what++) {
            due("1: count " + what, x.count(what), counts[what]);
        }
        due("1: no text", x.wipe(), 0);
        due("1: no text to lay", x.lay(), Check.NO);
        due("1: nothing undone", x.undo(), Check.NO);
        due("1: nothing kept", x.back(), Check.NO);
        // A wall costs 10 without a b: the builder is the last town, 80 and 12 less 10.
        x.pass(1);
        due("1: a wall costs 10", x.town(3, 1), 82);
        due("1: a wall is built", x.town(3, 3), 2);
    }

    private static void write() {
        PaidToGoAway x = new PaidToGoAway();
        for (int letter : new int[] {31, 127, 0, -1, 256 + 65, 65536 + 65}) {
            due("2: write " + letter, x.write(letter), Check.BAD);
        }
        for (int letter : Check.FAR) {
            due("2: write " + letter, x.write(letter), Check.BAD);
        }
        due("2: the lowest letter", x.write(32), 1);
        due("2: the highest letter", x.write(126), 2);
        for (int i = 3; i <= 200; i++) {
            due("2: write", x.write('t'), i);
        }
        due("2: full", x.write('t'), Check.FULL);
        due("2: bad ahead of full", x.write(31), Check.BAD);
        due("2: full changes nothing", x.count(9), 200);
    }

    private static void wipe() {
        PaidToGoAway x = Check.written("t0,1,2,3;c");
        due("3: wipe", x.wipe(), 10);
        due("3: wiped", x.wipe(), 0);
        due("3: no letters", x.count(9), 0);
        due("3: what was laid stays", x.count(0), 4);
        Check.write(x, "t0,1,2,3;c1,1;");
        due("3: written anew", x.lay(), 1);
        due("3: written anew, its silver", x.town(0, 1), 1);
    }

    private static void faultOf(String text, int want) {
        PaidToGoAway x = Check.written(text);
        String was = Check.state(x);
        due("4: fault of " + text, x.fault(), want);
        CHECK.same("4: fault changes nothing", Check.state(x), was);
        if (want != Check.NONE) {
            due("5: a fault is not laid: " + text, x.lay(), Check.NO);
            CHECK.same("5: NO changes nothing", Check.state(x), was);
        }
    }

    private static void faultsOfForm() {
        faultOf("", Check.NONE);
        for (String text : new String[] {"x", " ", ";", "1", ",", "t", "c", "w", "b", "T0,1,1,1;", "x1;", "tt0,1,1,1;"}) {
            faultOf(text, 0);
        }
        faultOf("t0,1,1,1", 0);
        faultOf("t0,1,1;", 0);
        faultOf("t0,1,1,1,1;", 0);
        faultOf("t0,1,1,;", 0);
        faultOf("t,1,1,1;", 0);
        faultOf("t0;1,1,1;", 0);
        faultOf("t0 ,1,1,1;", 0);
        faultOf("t0,-1,1,1;", 0);
        faultOf("t000,1,1,1;", 0);
        faultOf("t0,1,1,1,", 0);
        faultOf("t00,01,02,03;c01,09;w00,03;b07;", Check.NONE);
        faultOf("t0,1,1,1;x", 9);
        faultOf("t0,1,1,1; ", 9);
        faultOf("t0,1,1,1;;", 9);
        faultOf("t0,1,1,1;c1,1;c1;", 14);
        faultOf("t0,1,1,1;c1,1;x;c1", 14);
    }

    private static void faultsOfNumbers() {
        faultOf("t3,99,30,9;", Check.NONE);
        faultOf("t0,0,0,0;", Check.NONE);
        faultOf("t4,0,0,0;", 0);
        faultOf("t0,100,0,0;", 0);
        faultOf("t0,0,31,0;", 0);
        faultOf("t0,0,0,10;", 0);
        faultOf("c60,60;", Check.NONE);
        faultOf("c1,1;", Check.NONE);
        faultOf("c0,1;", 0);
        faultOf("c1,0;", 0);
        faultOf("c61,1;", 0);
        faultOf("c1,61;", 0);
        faultOf("b1;", Check.NONE);
        faultOf("b30;b1;b2;", Check.NONE);
        faultOf("b0;", 0);
        faultOf("b31;", 0);
        faultOf("b1,1;", 0);
        faultOf("b1;b31;", 3);
        faultOf("t0,0,0,0;w0,3;", Check.NONE);
        faultOf("t0,0,0,0;w0,4;", 9);
        faultOf("t0,0,0,0;w1,0;t0,0,0,0;", 9);
        faultOf("w0,0;t0,0,0,0;", 0);
        faultOf("t0,0,0,0;w0;", 9);
        faultOf("c1,1;c1,1;c1,1;", Check.NONE);
        faultOf("c1,1;c1,1;c1,1;c1,1;", 15);
        faultOf("t0,0,0,0;t0,0,0,0;t0,0,0,0;t0,0,0,0;t0,0,0,0;t0,0,0,0;w5,1;", Check.NONE);
        faultOf("t0,0,0,0;t0,0,0,0;t0,0,0,0;t0,0,0,0;t0,0,0,0;t0,0,0,0;t0,0,0,0;", 54);
    }

    private static void lay() {
        due("5: a town and a crew", Check.written("t0,5,0,0;c1,1;").lay(), 1);
        due("5: no crew", Check.written("t0,5,0,0;b5;").lay(), Check.NO);
        due("5: no town", Check.written("c1,1;").lay(), Check.NO);
        due("5: no text", new PaidToGoAway().lay(), Check.NO);
        PaidToGoAway x = Check.written("t0,5,0,0;c9,1;b3;w0,3;w0,1;c9,2;t3,50,1,2;b30;w0,3;b4;");
        due("5: lay", x.lay(), 2);
        due("5: the text stays", x.count(9), 54);
        due("5: the last w counts", x.town(0, 4), 3);
        due("5: way 0 without", x.town(1, 4), 0);
        due("5: kind", x.town(1, 0), 3);
        due("5: two crews", x.count(1), 2);
        due("5: the order of crews", x.crew(1, 1), 2);
        x.pass(1);
        due("5: the last b counts", x.town(0, 3), 1);
    }

    private static void layForgetsAll() {
        PaidToGoAway x = Check.written("t0,50,9,0;t0,5,0,0;c30,40;");
        x.lay();
        String first = Check.state(x);
        x.keep();
        x.found(0, 1, 1);
        x.way(1, 2);
        x.pass(3);
        x.keep();
        due("5: lay again", x.lay(), 2);
        CHECK.same("5: as if for the first time", Check.state(x), first);
        due("5: nothing undone", x.undo(), Check.NO);
        due("5: nothing kept", x.back(), Check.NO);
        due("5: nothing found", x.forget(), 0);
        x.pass(1);
        x.keep();
        x.found(0, 1, 1);
        String stood = Check.state(x);
        x.write('x');
        due("5: a fault", x.lay(), Check.NO);
        due("5: NO keeps what is found", x.count(6), 1);
        due("5: NO keeps what is kept", x.count(8), 1);
        due("5: NO keeps what can be undone", x.count(7), 1);
        due("5: NO keeps the springs", x.count(2), 1);
        CHECK.same("5: but a letter, all as it stood", behindCounts(x), stood.substring(stood.indexOf('\n')));
    }

    private static void layBehindTrials() {
        // What a trial burnt, paid, hired or believed on the way must not be laid.
        String text = "t0,50,9,0;t0,5,0,0;t2,7,1,1;c30,40;c20,9;c9,9;w0,2;";
        PaidToGoAway x = Check.laid(text);
        String first = Check.state(x);
        x.pass(2);
        x.land(2, 2);
        x.way(2, 3);
        x.behind(30, 0, 0);
        x.lay();
        CHECK.same("5: behind a trial", Check.state(x), first);
        x.springs(1, 30, 0);
        x.best(2, 4, 0);
        x.fault();
        x.lay();
        CHECK.same("5: behind trials", Check.state(x), first);
    }

    private static void textBehindWipe() {
        // Letters of a text that was wiped are no part of the next one.
        PaidToGoAway x = Check.written("t0,1,1,1;c12,34;");
        x.wipe();
        Check.write(x, "t0,1,1,1");
        due("4: no ; behind it", x.fault(), 0);
        x.write(';');
        due("4: now there is", x.fault(), Check.NONE);
        Check.write(x, "c12,3");
        due("4: no figure and ; behind it", x.fault(), 9);
        x.write(';');
        due("5: 3, not 34", x.lay(), 1);
        due("5: 3, not 34", x.crew(0, 1), 3);
    }

    private static String behindCounts(PaidToGoAway x) {
        String state = Check.state(x);
        return state.substring(state.indexOf('\n'));
    }

    private static void townsAndCrews() {
        PaidToGoAway x = Check.laid("t3,99,30,9;t0,7,6,5;c8,9;w1,2;");
        int[] town = {0, 7, 6, 5, 2, 0, 0};
        for (int what = 0; what <= 6; what++) {
            due("6: town " + what, x.town(1, what), town[what]);
        }
        for (int t : new int[] {-1, 2, 6, 7}) {
            due("6: no such town", x.town(t, 0), Check.BAD);
            due("8: no such town", x.believes(0, t), Check.BAD);
            due("9: no such town", x.asks(0, t), Check.BAD);
        }
        for (int far : Check.FAR) {
            due("6: far town", x.town(far, 0), Check.BAD);
            due("6: far what", x.town(0, far), Check.BAD);
            due("7: far crew", x.crew(far, 0), Check.BAD);
            due("7: far what", x.crew(0, far), Check.BAD);
            due("8: far", x.believes(far, 0), Check.BAD);
            due("8: far", x.believes(0, far), Check.BAD);
            due("9: far", x.asks(far, 0), Check.BAD);
            due("9: far", x.asks(0, far), Check.BAD);
            due("29: far", x.count(far), Check.BAD);
        }
        due("6: what", x.town(0, 7), Check.BAD);
        due("6: what", x.town(0, -1), Check.BAD);
        due("7: men", x.crew(0, 0), 8);
        due("7: hunger", x.crew(0, 1), 9);
        due("7: here", x.crew(0, 2), 0);
        due("7: what", x.crew(0, 3), Check.BAD);
        due("7: what", x.crew(0, -1), Check.BAD);
        due("7: no such crew", x.crew(1, 0), Check.BAD);
        due("8: no such crew", x.believes(1, 0), Check.BAD);
        due("9: no such crew", x.asks(1, 0), Check.BAD);
        due("29: what", x.count(10), Check.BAD);
        due("29: what", x.count(-1), Check.BAD);
    }

    private static void asksAndBelieves() {
        // The open one is sent on from with 6 of 20; the holy one is asked 10 and pays; both then are believed twice it.
        PaidToGoAway x = Check.laid("t0,50,0,0;t3,50,0,0;t0,50,0,0;c9,20;w0,2;");
        due("9: hunger", x.asks(0, 0), 20);
        due("9: half of a holy one", x.asks(0, 1), 10);
        x.pass(1);
        due("8: twice what it paid", x.believes(0, 0), 12);
        due("8: of a holy one", x.believes(0, 1), 20);
        due("8: of one that was not come to", x.believes(0, 2), 0);
        due("9: hunger is more", x.asks(0, 0), 20);
        due("6: paid", x.town(0, 6), 6);
        due("6: paid", x.town(1, 6), 10);
        x.land(2, 0);
        due("9: gone", x.asks(0, 0), Check.NO);
        due("9: bad ahead of gone", x.asks(0, 3), Check.BAD);
        due("7: gone", x.crew(0, 2), 1);
        due("8: of one that is gone", x.believes(0, 1), 20);
        due("29: gone", x.count(4), 1);
        PaidToGoAway y = Check.laid("t0,99,30,0;t0,3,0,0;c9,25;c5,9;");
        y.pass(1);
        due("8: the first crew's", y.believes(0, 0), 50);
        due("8: the second crew's", y.believes(1, 0), 18);
        due("9: half of it", y.asks(0, 0), 25);
        y.way(0, 1);
        y.pass(1);
        due("6: burnt", y.town(0, 5), 1);
        due("8: 0 of one that they burnt", y.believes(0, 0), 0);
        due("8: another crew's belief stays", y.believes(1, 0), 18);
        due("9: burnt", y.asks(1, 0), Check.NO);
        due("9: bad ahead of burnt", y.asks(2, 0), Check.BAD);
    }

    public static void main(String[] args) {
        aNewObject();
        write();
        wipe();
        faultsOfForm();
        faultsOfNumbers();
        lay();
        layForgetsAll();
        layBehindTrials();
        textBehindWipe();
        townsAndCrews();
        asksAndBelieves();
        CHECK.end();
    }
}
