/** Promises 21 to 29: shares, what is found, hoards, draws, what is kept, counts. */
public final class SharesTest {
    private static final Check CHECK = new Check("SharesTest");

    private static void due(String what, long got, long want) {
        CHECK.due(what, got, want);
    }

    private static void shareIs(PaidToGoAway x, int t, int above, int below) {
        due("21: above " + t, x.together(t, 0), above);
        due("21: below " + t, x.together(t, 1), below);
    }

    private static void together() {
        // Asked: 7, 3 and 7 by the one, 4, 2 and 4 by the other: 27 of 100.
        PaidToGoAway x = Check.laid("t0,30,0,0;t3,60,0,0;t0,10,0,0;c9,7;c9,4;");
        shareIs(x, 0, 81, 10);
        shareIs(x, 1, 81, 5);
        shareIs(x, 2, 27, 10);
        x.land(0, 0);
        shareIs(x, 0, 3, 1);
        x.land(0, 1);
        shareIs(x, 0, 0, 1);
        shareIs(Check.laid("t0,0,0,0;t0,7,0,0;c9,7;"), 0, 0, 1);
        shareIs(Check.laid("t0,0,0,0;t0,7,0,0;c9,7;"), 1, 14, 1);
        shareIs(Check.laid("t0,0,0,0;t3,0,0,0;c9,7;"), 0, Check.NONE, Check.NONE);
        shareIs(Check.laid("t0,1,0,0;t0,0,0,0;c9,7;"), 0, 14, 1);
        shareIs(Check.laid("t0,3,0,0;t3,8,0,0;c9,4;c1,1;"), 0, 21, 11);
        PaidToGoAway burnt = Check.laid("t0,9,0,0;t0,8,0,0;t0,4,0,0;c9,10;");
        burnt.pass(1);
        shareIs(burnt, 0, Check.NONE, Check.NONE);
        shareIs(burnt, 1, 40, 3);
        int[][] bad = {{3, 0}, {-1, 0}, {0, 2}, {0, -1}};
        for (int[] call : bad) {
            due("21: bad", burnt.together(call[0], call[1]), Check.BAD);
        }
        for (int far : Check.FAR) {
            due("21: far", burnt.together(far, 0), Check.BAD);
            due("21: far, ahead of none", burnt.together(0, far), Check.BAD);
        }
    }

    private static void found() {
        PaidToGoAway x = Check.laid("t0,10,5,0;t0,10,0,0;c20,9;");
        int[][] bad = {{2, 1, 0}, {-1, 1, 0}, {0, 0, 0}, {0, 21, 0}, {0, 1, -1}, {0, 1, 1000}};
        for (int[] call : bad) {
            due("22: bad", x.found(call[0], call[1], call[2]), Check.BAD);
        }
        for (int far : Check.FAR) {
            due("22: far", x.found(far, 1, 0), Check.BAD);
            due("22: far", x.found(0, far, 0), Check.BAD);
            due("22: far", x.found(0, 1, far), Check.BAD);
        }
        due("22: nothing yet", x.count(6), 0);
        due("22: edges", x.found(1, 20, 999), 1);
        for (int many = 2; many <= 6; many++) {
            due("22: the same again is one more", x.found(0, 1, 0), many);
        }
        due("22: full", x.found(0, 1, 0), Check.FULL);
        due("22: bad ahead of full", x.found(2, 1, 0), Check.BAD);
        due("29: found", x.count(6), 6);
        due("23: forget", x.forget(), 6);
        due("23: forgotten", x.forget(), 0);
        due("29: nothing found", x.count(6), 0);
        due("23: found anew", x.found(0, 1, 0), 1);
    }

    private static void hoardIs(PaidToGoAway x, int t, int many, int lowest) {
        due("24: how many", x.hoard(t, 0), many);
        due("24: the lowest", x.hoard(t, 1), lowest);
    }

    private static void hoard() {
        PaidToGoAway x = Check.laid("t0,10,5,0;t0,10,0,0;c20,9;");
        hoardIs(x, 0, 100, 0);
        x.found(0, 1, 6);
        hoardIs(x, 0, 1, 10);
        hoardIs(x, 1, 100, 0);
        x.way(0, 1);
        x.pass(3);
        x.land(1, 0);
        hoardIs(x, 0, 1, 10);
        // 6, then 2, then burnt.
        x.found(0, 3, 0);
        hoardIs(x, 0, 1, 10);
        x.found(0, 2, 3);
        hoardIs(x, 0, 0, Check.NONE);
        x.forget();
        x.found(0, 1, 0);
        hoardIs(x, 0, 5, 0);
        x.found(1, 1, 10);
        hoardIs(x, 0, 5, 0);
        hoardIs(x, 1, 0, Check.NONE);
        x.found(1, 1, 11);
        hoardIs(x, 0, 0, Check.NONE);
        x.forget();
        // Behind two springs 0: S and 10 less 18 is 0 for 8; 4 to 7 are burnt in the second, 0 to 3 in the first.
        x.found(0, 2, 0);
        hoardIs(x, 0, 9, 0);
        x.found(0, 1, 3);
        hoardIs(x, 0, 1, 7);
        x.forget();
        x.found(0, 20, 97);
        hoardIs(x, 0, 0, Check.NONE);
        due("24: bad", x.hoard(2, 0), Check.BAD);
        due("24: bad", x.hoard(-1, 0), Check.BAD);
        due("24: bad", x.hoard(0, 2), Check.BAD);
        due("24: bad", x.hoard(0, -1), Check.BAD);
        for (int far : Check.FAR) {
            due("24: far", x.hoard(far, 0), Check.BAD);
            due("24: far", x.hoard(0, far), Check.BAD);
        }
        PaidToGoAway y = Check.laid("t0,10,0,9;c1,1;w0,1;");
        y.found(0, 20, 99);
        hoardIs(y, 0, 1, 99);
    }

    private static void hoardInEarnest(int t, int spring, int of) {
        String[] texts = {"t2,", ",9,1;t0,", ",4,2;t3,", ",6,0;c20,12;c12,15;c7,8;w0,2;w1,3;b4;"};
        int[] own = {40, 50, 30};
        int[] silver = new int[100];
        for (int s = 0; s < 100; s++) {
            int[] at = own.clone();
            at[t] = s;
            PaidToGoAway y = Check.laid(texts[0] + at[0] + texts[1] + at[1] + texts[2] + at[2] + texts[3]);
            y.pass(spring);
            silver[s] = y.town(of, 1);
        }
        for (int s = 0; s < 100; s += 7) {
            int many = 0;
            int lowest = Check.NONE;
            for (int other = 99; other >= 0; other--) {
                many += silver[other] == silver[s] ? 1 : 0;
                lowest = silver[other] == silver[s] ? other : lowest;
            }
            PaidToGoAway x = Check.laid(texts[0] + 40 + texts[1] + 50 + texts[2] + 30 + texts[3]);
            x.found(of, spring, silver[s]);
            hoardIs(x, t, many, lowest);
        }
    }

    private static void whose() {
        PaidToGoAway x = Check.laid("t0,50,0,0;t2,50,0,0;c20,9;c20,7;c5,9;");
        due("25: two", x.whose(0, 1, 9), 5);
        due("25: one", x.whose(0, 1, 7), 2);
        due("25: nobody", x.whose(0, 1, 16), 0);
        due("25: none paid", x.whose(1, 1, 0), 7);
        due("25: two springs", x.whose(0, 2, 18), 5);
        // The first burns it in its sixth spring with 5 left, the second in its eighth with 1 left.
        due("25: till it is burnt", x.whose(0, 20, 45), 5);
        due("25: till it is burnt", x.whose(0, 20, 49), 2);
        x.land(0, 0);
        x.hire(0, 1, 2);
        x.way(0, 1);
        x.pass(2);
        due("25: from when all was laid", x.whose(0, 2, 18), 5);
        due("25: edges", x.whose(0, 20, 9999), 0);
        int[][] bad = {{2, 1, 0}, {-1, 1, 0}, {0, 0, 0}, {0, 21, 0}, {0, 1, -1}, {0, 1, 10000}};
        for (int[] call : bad) {
            due("25: bad", x.whose(call[0], call[1], call[2]), Check.BAD);
        }
        for (int far : Check.FAR) {
            due("25: far", x.whose(far, 1, 0), Check.BAD);
            due("25: far", x.whose(0, far, 0), Check.BAD);
            due("25: far", x.whose(0, 1, far), Check.BAD);
        }
        // A forging one's 5 are 5, though they cost it 3.
        due("25: as they have it", Check.laid("t2,9,0,0;c9,5;").whose(0, 1, 5), 1);
        due("25: two crews alone", Check.laid("t2,9,0,0;c9,5;c9,5;").whose(0, 1, 5), 3);
    }

    private static int drawn(long z, long k, long i) {
        long x = 7919 * z + 6151 * k + 331 * i + 1;
        return (int) (((x * x) % 65521) / 8 % 5);
    }

    private static void springs() {
        // The second crew draws 2 (332 times 332 leaves 44703, an eighth is 5587): 46 men burn what 45 do not.
        PaidToGoAway x = Check.laid("t0,10,0,9;c1,1;c44,60;w0,1;");
        due("26: burnt", x.springs(0, 1, 0), 1);
        due("26: no silver", x.springs(0, 1, 1), 0);
        PaidToGoAway y = Check.laid("t0,10,0,9;c1,1;c43,60;w0,1;");
        due("26: not burnt", y.springs(0, 1, 0), 0);
        due("26: silver", y.springs(0, 1, 1), 10);
        // The first crew draws 1 by z 2 (15839 times 15839 leaves 59533, an eighth is 7441): each crew by many z.
        for (int crew = 0; crew < 3; crew++) {
            for (int z = 0; z < 40; z++) {
                StringBuilder text = new StringBuilder("t0,10,0,9;");
                for (int i = 0; i < 3; i++) {
                    text.append(i == crew ? "c43,60;" : "c1,60;");
                }
                PaidToGoAway m = Check.laid(text.append("w0,1;").toString());
                due("26: crew " + crew, m.springs(z, 1, 0), 43 + drawn(z, 0, crew) > 45 ? 1 : 0);
            }
        }
        for (int z : new int[] {0, 1, 2, 77, 1234, 5000, 8191, 9998, 9999}) {
            for (int men = 38; men <= 46; men++) {
                PaidToGoAway m = Check.laid("t0,10,1,9;c1,1;c1,1;c" + men + ",60;w0,1;");
                int now = men;
                boolean burnt = false;
                for (int k = 0; k < 12; k++) {
                    now += drawn(z, k, 2);
                    burnt |= now > 45;
                    now -= 2;
                    due("26: burnt", m.springs(z, k + 1, 0), burnt ? 1 : 0);
                    due("26: silver", m.springs(z, k + 1, 1), burnt ? 0 : 11 + k);
                }
            }
        }
        String stood = Check.state(x);
        x.springs(9999, 30, 0);
        CHECK.same("26: nothing changes", Check.state(x), stood);
        int[][] bad = {{-1, 1, 0}, {10000, 1, 0}, {0, 0, 0}, {0, 31, 0}, {0, 1, 2}, {0, 1, -1}};
        for (int[] call : bad) {
            due("26: bad", x.springs(call[0], call[1], call[2]), Check.BAD);
        }
        for (int far : Check.FAR) {
            due("26: far", x.springs(far, 1, 0), Check.BAD);
            due("26: far", x.springs(0, far, 0), Check.BAD);
            due("26: far", x.springs(0, 1, far), Check.BAD);
        }
        x.land(0, 1);
        due("26: one that is gone", x.springs(0, 30, 0), 0);
        PaidToGoAway burnt = Check.laid("t0,10,0,0;t0,10,0,9;c9,60;");
        burnt.pass(1);
        due("26: burnt ahead", burnt.springs(0, 1, 0), 1);
    }

    private static void keepAndBack() {
        PaidToGoAway x = Check.laid("t0,60,9,9;t0,60,2,0;c40,15;c9,5;w0,1;");
        due("28: nothing", x.back(), Check.NO);
        String first = townsAndCrews(x);
        due("27: keep", x.keep(), 1);
        x.pass(2);
        x.way(0, 2);
        x.hire(0, 0, 1);
        String second = townsAndCrews(x);
        due("27: keep", x.keep(), 2);
        due("27: full", x.keep(), Check.FULL);
        due("29: kept", x.count(8), 2);
        due("27: undone stays", x.count(7), 3);
        x.pass(5);
        x.land(0, 0);
        x.found(0, 1, 1);
        x.write('t');
        due("28: back", x.back(), 1);
        CHECK.same("28: as kept last", townsAndCrews(x), second);
        due("28: springs", x.count(2), 2);
        due("28: found stays", x.count(6), 1);
        due("28: the text stays", x.count(9), 37 + 1);
        due("28: nothing can be undone", x.count(7), 0);
        due("28: nothing is undone", x.undo(), Check.NO);
        x.pass(1);
        due("27: room again", x.keep(), 2);
        due("28: back", x.back(), 1);
        due("28: back", x.back(), 0);
        CHECK.same("28: as kept first", townsAndCrews(x), first);
        due("28: no more", x.back(), Check.NO);
        due("28: springs", x.count(2), 0);
    }

    private static String townsAndCrews(PaidToGoAway x) {
        String state = Check.state(x);
        return state.substring(state.indexOf('\n'));
    }

    private static void counts() {
        PaidToGoAway x = Check.laid("t0,60,9,9;t0,70,2,0;t0,5,1,9;c40,15;c9,5;c1,1;w0,1;w1,1;w2,1;");
        x.pass(2);
        x.land(0, 2);
        x.found(0, 1, 1);
        x.keep();
        x.wipe();
        Check.write(x, "t0,1");
        int[] due = {3, 3, 2, 1, 1, 60 + 18 + 7, 1, 2, 1, 4};
        for (int what = 0; what <= 9; what++) {
            due("29: count " + what, x.count(what), due[what]);
        }
        due("29: bad", x.count(10), Check.BAD);
        due("29: bad", x.count(-1), Check.BAD);
    }

    public static void main(String[] args) {
        together();
        found();
        hoard();
        for (int t = 0; t < 3; t++) {
            for (int spring = 1; spring <= 7; spring += 3) {
                hoardInEarnest(t, spring, (t + spring / 3) % 3);
            }
        }
        whose();
        springs();
        keepAndBack();
        counts();
        CHECK.end();
    }
}
