/** Promises 16 to 20: what comes. */
public final class ComingTest {
    private static final Check CHECK = new Check("ComingTest");
    private static final String[] TEXTS = {
        "t0,60,8,2;t1,40,10,4;t2,30,5,0;t0,80,12,1;c20,15;c12,25;w1,1;w2,2;w3,3;",
        "t3,50,9,1;t2,70,6,3;t1,45,12,4;t0,99,15,2;t2,20,30,9;c22,14;c35,20;c9,33;w1,2;w2,1;w4,3;b6;",
        "t0,10,5,1;t2,12,4,2;c8,9;c20,12;w0,2;w1,3;b4;",
        "t2,99,20,0;t3,10,1,0;t1,30,30,3;c60,60;c1,7;c30,21;w2,1;b30;",
    };

    private static void due(String what, long got, long want) {
        CHECK.due(what, got, want);
    }

    /** A river some springs and calls on, made anew, for what a trial would do to be done in earnest. */
    private static PaidToGoAway moved(int text, int moves) {
        PaidToGoAway x = Check.laid(TEXTS[text]);
        if (moves >= 1) {
            x.pass(1);
        }
        if (moves >= 2) {
            x.hire(0, 0, 1);
            x.way(1, 0);
            x.land(1, 1);
            x.pass(2);
        }
        if (moves >= 3) {
            x.raise(1, 0);
        }
        return x;
    }

    private static void passAll(PaidToGoAway x, int n) {
        for (int left = n; left > 0; left -= 10) {
            x.pass(Math.min(10, left));
        }
    }

    private static void behind() {
        PaidToGoAway x = Check.laid("t0,29,1,0;t0,5,0,9;c10,10;w1,3;b2;");
        int[][] due = {{29, 0, 0, 0}, {20, 0, 0, 10}, {11, 0, 0, 20}, {2, 0, 0, 30}, {0, 0, 1, 30}};
        for (int n = 0; n < due.length; n++) {
            for (int what = 0; what <= 3; what++) {
                due("16: behind " + n + " " + what, x.behind(n, 0, what), due[n][what]);
            }
        }
        due("16: walls", x.behind(1, 1, 1), 10);
        due("16: silver", x.behind(2, 1, 0), 1);
        due("16: 30", x.behind(30, 1, 1), 11);
        x.pass(2);
        due("16: paid in these alone", x.behind(1, 0, 3), 10);
        due("16: none in none", x.behind(0, 0, 3), 0);
        int[][] bad = {{-1, 0, 0}, {31, 0, 0}, {1, 2, 0}, {1, -1, 0}, {1, 0, 4}, {1, 0, -1}};
        for (int[] call : bad) {
            due("16: bad", x.behind(call[0], call[1], call[2]), Check.BAD);
        }
        for (int far : Check.FAR) {
            due("16: far", x.behind(far, 0, 0), Check.BAD);
            due("16: far", x.behind(1, far, 0), Check.BAD);
            due("16: far", x.behind(1, 0, far), Check.BAD);
        }
    }

    private static void behindInEarnest(int text, int moves) {
        PaidToGoAway x = moved(text, moves);
        for (int n : new int[] {0, 1, 2, 7, 10, 19, 30}) {
            PaidToGoAway y = moved(text, moves);
            passAll(y, n);
            for (int t = 0; t < x.count(0); t++) {
                String name = "16: in earnest, " + text + " " + moves + " " + n + " " + t + ": ";
                due(name + "silver", x.behind(n, t, 0), y.town(t, 1));
                due(name + "walls", x.behind(n, t, 1), y.town(t, 3));
                due(name + "burnt", x.behind(n, t, 2), y.town(t, 5));
                due(name + "paid", x.behind(n, t, 3), y.town(t, 6) - x.town(t, 6));
            }
        }
    }

    private static void fireIs(PaidToGoAway x, int who, int spring) {
        due("17: who", x.fire(0), who);
        due("17: in which", x.fire(1), spring);
    }

    private static void fire() {
        fireIs(Check.laid("t0,10,0,0;t0,50,0,0;c20,10;"), 0, 2);
        // The first crew burns town 1 ahead of the second, which burns town 0: the lowest counts.
        fireIs(Check.laid("t0,3,0,0;t0,50,0,0;c9,9;c9,9;w0,2;w1,1;"), 0, 1);
        fireIs(Check.laid("t0,29,0,0;c1,1;"), 0, 30);
        fireIs(Check.laid("t0,30,0,0;c1,1;"), Check.NONE, Check.NONE);
        fireIs(Check.laid("t0,0,0,9;c40,1;"), Check.NONE, Check.NONE);
        PaidToGoAway x = Check.laid("t0,10,0,0;t0,50,0,0;c20,20;");
        fireIs(x, 0, 1);
        x.pass(1);
        fireIs(x, 1, 3);
        x.raise(1, 0);
        fireIs(x, 0, 1);
        due("17: bad", x.fire(2), Check.BAD);
        due("17: bad", x.fire(-1), Check.BAD);
        for (int far : Check.FAR) {
            due("17: far", x.fire(far), Check.BAD);
        }
        PaidToGoAway none = Check.laid("t0,0,0,9;c40,1;");
        due("17: bad ahead of none", none.fire(2), Check.BAD);
    }

    private static void fireInEarnest(int text, int moves) {
        PaidToGoAway x = moved(text, moves);
        PaidToGoAway y = moved(text, moves);
        int who = Check.NONE;
        int spring = Check.NONE;
        for (int n = 1; n <= 30 && who == Check.NONE; n++) {
            y.pass(1);
            for (int t = y.count(0) - 1; t >= 0; t--) {
                if (y.town(t, 5) == 1 && x.town(t, 5) == 0) {
                    who = t;
                    spring = n;
                }
            }
        }
        fireIs(x, who, spring);
    }

    private static void bestIs(PaidToGoAway x, int n, int safe, int... mostAndWays) {
        due("18: safe", x.best(0, n, -1), safe);
        for (int k = 0; k <= n; k++) {
            due("18: k " + k + " of " + n, x.best(0, n, k), mostAndWays[k]);
        }
    }

    private static void best() {
        PaidToGoAway x = Check.laid("t0,10,5,0;t0,50,0,0;c20,12;w0,1;w1,1;");
        bestIs(x, 1, 2, 11, 2);
        bestIs(x, 2, 3, 12, 2, 2);
        String stood = Check.state(x);
        x.best(0, 4, 0);
        CHECK.same("18: nothing changes", Check.state(x), stood);
        bestIs(Check.laid("t0,0,0,9;c1,60;"), 3, 64, 0, 0, 0, 0);
        bestIs(Check.laid("t0,0,0,0;c9,60;w0,3;"), 4, 0, 0, 0, 0, 0, 0);
        // A wall of 1 in time holds what would burn all; paying would cost more.
        bestIs(Check.laid("t0,20,0,0;c5,10;b1;"), 1, 3, 19, 3);
        int[][] bad = {{2, 1, 0}, {-1, 1, 0}, {0, 0, 0}, {0, 5, 0}, {0, 1, 2}, {0, 4, 5}, {0, 1, -2}};
        for (int[] call : bad) {
            due("18: bad", x.best(call[0], call[1], call[2]), Check.BAD);
        }
        for (int far : Check.FAR) {
            due("18: far", x.best(far, 1, 0), Check.BAD);
            due("18: far", x.best(0, far, 0), Check.BAD);
            due("18: far", x.best(0, 1, far), Check.BAD);
        }
        x.pass(1);
        due("18: burnt", x.best(0, 1, 0), Check.NO);
        due("18: burnt", x.best(0, 4, -1), Check.NO);
        due("18: bad ahead of burnt", x.best(0, 1, 2), Check.BAD);
    }

    private static void bestInEarnest(int text, int moves, int t, int n) {
        PaidToGoAway x = moved(text, moves);
        if (x.town(t, 5) == 1) {
            due("18: burnt", x.best(t, n, 0), Check.NO);
            return;
        }
        int most = -1;
        int safe = 0;
        int[] ways = new int[n];
        int[] bestWays = ways;
        for (int row = 0; row < Math.pow(4, n); row++) {
            int rest = row;
            for (int k = n - 1; k >= 0; k--) {
                ways[k] = rest % 4;
                rest /= 4;
            }
            PaidToGoAway y = moved(text, moves);
            for (int k : ways) {
                y.way(t, k);
                y.pass(1);
            }
            safe += 1 - y.town(t, 5);
            if (y.town(t, 1) > most) {
                most = y.town(t, 1);
                bestWays = ways.clone();
            }
        }
        String name = "18: in earnest, " + text + " " + moves + " " + t + " " + n + ": ";
        due(name + "as much", x.best(t, n, 0), most);
        due(name + "safe", x.best(t, n, -1), safe);
        for (int k = 1; k <= n; k++) {
            due(name + "way " + k, x.best(t, n, k), bestWays[k - 1]);
        }
    }

    private static void rests() {
        PaidToGoAway x = Check.laid("t0,10,0,0;t0,10,0,0;c20,9;");
        due("19: many", x.rests(0, 1, 0), 1);
        due("19: first", x.rests(0, 1, 1), 10);
        x = Check.laid("t0,10,0,0;t0,10,0,9;c20,9;");
        due("19: the one, then the other", x.rests(0, 1, 1), 9);
        due("19: the other, then the one", x.rests(1, 0, 1), 6);
        // Neither is come to, and neither can build: all are as good.
        x = Check.laid("t3,9,0,0;t0,9,0,0;t0,9,0,0;c1,1;");
        due("19: all", x.rests(1, 2, 0), 16);
        due("19: the first of all", x.rests(1, 2, 1), 0);
        int[][] bad = {{0, 3, 0}, {3, 0, 0}, {-1, 0, 0}, {0, -1, 0}, {0, 0, 0}, {0, 1, 2}, {0, 1, -1}};
        for (int[] call : bad) {
            due("19: bad", x.rests(call[0], call[1], call[2]), Check.BAD);
        }
        for (int far : Check.FAR) {
            due("19: far", x.rests(far, 0, 0), Check.BAD);
            due("19: far", x.rests(0, far, 0), Check.BAD);
            due("19: far", x.rests(0, 1, far), Check.BAD);
        }
        PaidToGoAway burnt = Check.laid("t0,9,0,0;t0,9,0,0;c20,60;");
        burnt.pass(1);
        due("19: the one burnt", burnt.rests(0, 1, 0), Check.NO);
        due("19: the other burnt", burnt.rests(1, 0, 1), Check.NO);
        due("19: bad ahead of burnt", burnt.rests(0, 0, 1), Check.BAD);
    }

    private static void restsInEarnest(int text, int moves, int t, int u) {
        PaidToGoAway x = moved(text, moves);
        if (x.town(t, 5) + x.town(u, 5) > 0) {
            due("19: burnt", x.rests(t, u, 0), Check.NO);
            return;
        }
        int[][] one = new int[4][4];
        int[][] other = new int[4][4];
        for (int two = 0; two < 16; two++) {
            PaidToGoAway y = moved(text, moves);
            y.way(t, two / 4);
            y.way(u, two % 4);
            y.pass(1);
            one[two / 4][two % 4] = y.town(t, 1);
            other[two / 4][two % 4] = y.town(u, 1);
        }
        int many = 0;
        int first = Check.NONE;
        for (int two = 15; two >= 0; two--) {
            boolean rest = true;
            for (int k = 0; k < 4; k++) {
                rest &= one[k][two % 4] <= one[two / 4][two % 4];
                rest &= other[two / 4][k] <= other[two / 4][two % 4];
            }
            many += rest ? 1 : 0;
            first = rest ? two : first;
        }
        String name = "19: in earnest, " + text + " " + moves + " " + t + " " + u + ": ";
        due(name + "many", x.rests(t, u, 0), many);
        due(name + "first", x.rests(t, u, 1), first);
    }

    private static void walled() {
        due("20: paying", Check.laid("t0,9,0,0;c22,9;").walled(0, 1), 0);
        due("20: not twice", Check.laid("t0,9,0,0;c22,9;").walled(0, 2), 5);
        due("20: 22 men", Check.laid("t0,0,0,0;c22,9;w0,1;").walled(0, 1), 5);
        due("20: 25 men", Check.laid("t0,0,0,9;c25,9;w0,1;").walled(0, 20), 5);
        due("20: 26 men", Check.laid("t0,0,0,9;c26,9;w0,1;").walled(0, 20), 6);
        due("20: 24 men and a proud one", Check.laid("t1,0,0,9;c24,9;w0,1;").walled(0, 20), 4);
        due("20: one that builds", Check.laid("t0,10,0,9;c26,9;w0,3;").walled(0, 1), 5);
        PaidToGoAway x = Check.laid("t0,99,30,0;t0,99,30,0;t0,99,30,0;t0,99,30,0;t0,99,30,0;t0,99,30,0;c60,60;"
            + "w0,2;w1,2;w2,2;w3,2;w4,2;w5,2;");
        x.pass(3);
        x.way(5, 1);
        due("20: 96 men", x.walled(5, 1), 20);
        due("20: as many as it has stay", x.town(5, 3), 0);
        x.undo();
        x.undo();
        int[][] bad = {{6, 1}, {-1, 1}, {0, 0}, {0, 21}};
        for (int[] call : bad) {
            due("20: bad", x.walled(call[0], call[1]), Check.BAD);
        }
        for (int far : Check.FAR) {
            due("20: far", x.walled(far, 1), Check.BAD);
            due("20: far", x.walled(0, far), Check.BAD);
        }
        PaidToGoAway burnt = Check.laid("t0,9,0,0;c20,60;");
        burnt.pass(1);
        due("20: burnt", burnt.walled(0, 1), Check.NO);
        due("20: bad ahead of burnt", burnt.walled(0, 21), Check.BAD);
    }

    private static void walledInEarnest(String ahead, String behind, int n) {
        int least = Check.NONE;
        for (int walls = 9; walls >= 0; walls--) {
            PaidToGoAway y = Check.laid(ahead + walls + behind);
            passAll(y, n);
            least = y.town(1, 5) == 0 ? walls : least;
        }
        int got = Check.laid(ahead + 3 + behind).walled(1, n);
        due("20: in earnest, " + n, got <= 9 ? got : Check.NONE, least);
    }

    public static void main(String[] args) {
        behind();
        fire();
        best();
        rests();
        walled();
        for (int text = 0; text < TEXTS.length; text++) {
            for (int moves = 0; moves <= 3; moves++) {
                behindInEarnest(text, moves);
                fireInEarnest(text, moves);
                int towns = moved(text, moves).count(0);
                for (int t = 0; t < towns; t++) {
                    bestInEarnest(text, moves, t, 1 + (t + moves) % 4);
                    restsInEarnest(text, moves, t, (t + 1 + moves % (towns - 1)) % towns);
                }
            }
        }
        for (int n = 1; n <= 20; n++) {
            walledInEarnest("t2,30,9,0;t0,40,9,", ";t1,30,9,2;c20,12;c12,15;c7,8;w0,2;w1,0;w2,1;", n);
            walledInEarnest("t3,60,9,0;t1,10,3,", ";t1,30,9,2;c30,12;c12,15;c7,8;w0,2;w1,3;b4;", n);
            walledInEarnest("t0,60,9,0;t2,50,13,", ";c30,30;c12,15;c7,8;w0,2;w1,2;b4;", n);
        }
        CHECK.end();
    }
}
