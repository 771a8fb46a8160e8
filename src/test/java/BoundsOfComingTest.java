/** Promises 16 to 20, and section 3 of the document: each sentence that names a bound, on both sides of it. */
public final class BoundsOfComingTest {
    private static final Check CHECK = new Check("BoundsOfComingTest");
    private static final int SILVER = 1, WALLS = 3, BURNT = 5, PAID = 6;
    private static final String BUSY = "t2,60,9,1;t3,45,7,2;t1,30,12,4;t0,80,5,0;c24,14;c17,25;c9,33;w0,2;w1,1;w3,3;b4;";

    private static void due(String what, long got, long want) {
        CHECK.due(what, got, want);
    }

    private static void passAll(PaidToGoAway x, int n) {
        for (int left = n; left > 0; left -= 10) {
            x.pass(Math.min(10, left));
        }
    }

    /** "BEHIND n SPRINGS (0 to 30), nothing else being done". */
    private static void zeroToThirtySprings() {
        for (int ahead = 0; ahead <= 3; ahead++) {
            PaidToGoAway x = Check.laid(BUSY);
            passAll(x, ahead);
            String stood = Check.state(x);
            for (int n = -2; n <= 33; n++) {
                x = Check.laid(BUSY);
                passAll(x, ahead);
                PaidToGoAway y = Check.laid(BUSY);
                passAll(y, ahead + n);
                for (int t = 0; t < 4; t++) {
                    boolean good = n >= 0 && n <= 30;
                    String what = "16: behind " + n + " of town " + t;
                    due(what + ", silver", x.behind(n, t, 0), good ? y.town(t, SILVER) : Check.BAD);
                    due(what + ", walls", x.behind(n, t, 1), good ? y.town(t, WALLS) : Check.BAD);
                    due(what + ", burnt", x.behind(n, t, 2), good ? y.town(t, BURNT) : Check.BAD);
                    due(what + ", paid in them", x.behind(n, t, 3), good ? y.town(t, PAID) - x.town(t, PAID) : Check.BAD);
                    due(what + ", no what", x.behind(n, t, -1), Check.BAD);
                    due(what + ", no what", x.behind(n, t, 4), Check.BAD);
                }
                due("16: no town", x.behind(n, -1, 0), Check.BAD);
                due("16: no town", x.behind(n, 4, 0), Check.BAD);
                CHECK.same("16: nothing changes", Check.state(x), stood);
            }
        }
    }

    /** "all that it paid to CREWS in them (as they have it; not what was taken)". */
    private static void paidNotTaken() {
        PaidToGoAway forging = Check.laid("t2,12,0,0;c9,5;");
        int[] silver = {12, 9, 6, 3, 0, 0};
        int[] paid = {0, 5, 10, 15, 15, 15};
        for (int n = 0; n <= 5; n++) {
            due("16: a forging one's 5, as they have it", forging.behind(n, 0, 3), paid[n]);
            due("16: what it has", forging.behind(n, 0, 0), silver[n]);
            due("16: the rest is taken, not paid", forging.behind(n, 0, 2), n >= 4 ? 1 : 0);
        }
        PaidToGoAway hiring = Check.laid("t0,50,0,0;c9,5;c3,5;");
        hiring.hire(0, 0, 1);
        due("16: no hiring", hiring.behind(0, 0, 3), 0);
        due("16: no hiring", hiring.behind(1, 0, 3), 5);
        due("6: no hiring", hiring.town(0, PAID), 0);
    }

    private static void fireIs(String what, PaidToGoAway x, int who, int spring) {
        due("17: who, " + what, x.fire(0), who);
        due("17: in which, " + what, x.fire(1), spring);
    }

    /** "FIRE: the first TOWN that is BURNT .. in 30 SPRINGS; in which (1 the first); none". */
    private static void fireInThirtySprings() {
        for (int silver = 0; silver <= 40; silver++) {
            PaidToGoAway x = Check.laid("t0," + silver + ",0,0;c9,1;");
            boolean none = silver >= 30;
            fireIs("silver " + silver, x, none ? Check.NONE : 0, none ? Check.NONE : silver + 1);
            x.pass(1);
            none = silver >= 31 || silver == 0;
            fireIs("from a spring on, silver " + silver, x, none ? Check.NONE : 0, none ? Check.NONE : silver);
        }
        PaidToGoAway gone = Check.laid("t0,0,0,0;c9,1;");
        gone.land(0, 0);
        fireIs("no crew", gone, Check.NONE, Check.NONE);
        for (int what = -2; what <= 3; what++) {
            boolean good = what == 0 || what == 1;
            due("17: what " + what, Check.laid("t0,0,0,0;c9,1;").fire(what), good ? what : Check.BAD);
            due("17: what " + what + " of none", gone.fire(what), good ? Check.NONE : Check.BAD);
        }
    }

    /** "(that is not yet; of several in one SPRING the lowest)". */
    private static void fireOfSeveral() {
        // All of three burn in one spring, the last one first: each crew can burn just what the one ahead of it left.
        String river = "t0,3,0,0;t0,3,0,0;t0,50,0,0;c9,9;c9,15;c9,60;w0,2;w1,2;w2,1;";
        PaidToGoAway x = Check.laid(river);
        fireIs("of several the lowest", x, 0, 1);
        x.pass(1);
        due("17: three burnt in it", x.count(3), 3);
        fireIs("all are burnt", x, Check.NONE, Check.NONE);
        PaidToGoAway y = Check.laid("t0,9,0,0;t0,25,0,0;t0,99,0,0;c9,10;");
        int[][] due = {{0, 1}, {1, 3}, {2, 10}, {Check.NONE, Check.NONE}};
        int[] springs = {1, 3, 10};
        for (int burnt = 0; burnt <= 3; burnt++) {
            fireIs(burnt + " are burnt", y, due[burnt][0], due[burnt][1]);
            passAll(y, burnt < 3 ? springs[burnt] : 1);
            due("17: it burns then", y.count(3), Math.min(3, burnt + 1));
        }
        PaidToGoAway z = Check.laid("t0,0,0,0;t0,99,0,9;c9,60;w1,1;");
        z.pass(1);
        fireIs("the one is burnt, the other never", z, Check.NONE, Check.NONE);
        z.raise(1, 0);
        fireIs("a raised one burns anew", z, 0, 1);
    }

    private static void bestIs(String what, PaidToGoAway x, int t, int safe, int... mostAndWays) {
        int n = mostAndWays.length - 1;
        due("18: safe, " + what, x.best(t, n, -1), safe);
        for (int k = 0; k <= n; k++) {
            due("18: k " + k + ", " + what, x.best(t, n, k), mostAndWays[k]);
        }
    }

    /** "in n (1 to 4) SPRINGS", "the k-th WAY (1 to n), SAFE (k = -1)". */
    private static void oneToFourSprings() {
        for (int n = -1; n <= 6; n++) {
            PaidToGoAway x = Check.laid(BUSY);
            for (int k = -3; k <= 7; k++) {
                for (int t = -1; t <= 5; t++) {
                    boolean good = n >= 1 && n <= 4 && k >= -1 && k <= n && t >= 0 && t < 4;
                    due("18: best " + t + " " + n + " " + k, x.best(t, n, k) >= 0 ? 1 : 0, good ? 1 : 0);
                    due("18: best " + t + " " + n + " " + k, x.best(t, n, k) == Check.BAD ? 1 : 0, good ? 0 : 1);
                }
            }
        }
    }

    /** "that by which it has most SILVER then (BURNT ones 0), of several the first (by the first WAY, then ..)". */
    private static void theFirstOfSeveral() {
        // Nobody comes to the second town and it cannot build: all rows are as good.
        PaidToGoAway still = Check.laid("t3,9,0,0;t0,9,0,0;c1,1;");
        bestIs("all as good", still, 1, 4, 9, 0);
        bestIs("all as good", still, 1, 16, 9, 0, 0);
        bestIs("all as good", still, 1, 64, 9, 0, 0, 0);
        bestIs("all as good", still, 1, 256, 9, 0, 0, 0, 0);
        for (int way = 0; way <= 3; way++) {
            still.way(1, way);
            bestIs("whatever its way is now", still, 1, 16, 9, 0, 0);
            due("18: its way stays", still.town(1, 4), way);
        }
        // Building alone saves it and leaves 0; the burnt ones count 0 as well, so the first row is one of them.
        bestIs("burnt ones 0", Check.laid("t0,1,0,0;c5,60;b1;"), 0, 1, 0, 0);
        bestIs("one silver left", Check.laid("t0,2,0,0;c5,60;b1;"), 0, 1, 1, 3);
        bestIs("nobody comes, but a wall costs 1", Check.laid("t0,99,0,0;c6,60;t0,1,0,0;w1,3;b1;"), 1, 4, 1, 0);
        bestIs("all burnt", Check.laid("t0,5,0,0;c60,60;"), 0, 0, 0, 0, 0, 0, 0);
        // Sending on and refusing leave as much as each other: of the two the lower way counts, in each place.
        bestIs("refuse ahead of send on", Check.laid("t0,9,0,9;c9,1;"), 0, 4, 9, 1);
        bestIs("refuse ahead of send on, twice", Check.laid("t0,9,0,9;c9,1;"), 0, 16, 9, 1, 1);
        bestIs("pay nothing ahead of all", Check.laid("t3,9,0,9;c9,1;"), 0, 4, 9, 0);
        // 10 men, one wall: one more is to be built at once or they burn it; then paying and refusing are one.
        bestIs("a wall first", Check.laid("t0,30,0,1;c10,60;b5;"), 0, 4, 25, 3, 0);
    }

    /** "SAFE: in how many of all rows it is not BURNT", "for a TOWN that is not BURNT". */
    private static void safe() {
        for (int n = 1; n <= 4; n++) {
            // 40 silver, each spring costs 10 by paying, 3 by sending on; by the other two ways 10 men burn it.
            due("18: safe in " + n, Check.laid("t0,40,0,0;c10,10;b30;w0,1;").best(0, n, -1), 1 << n);
            // 9 silver: nothing but sending on is safe, three times; then nothing is.
            due("18: safe in " + n, Check.laid("t0,9,0,0;c10,10;b30;").best(0, n, -1), n <= 3 ? 1 : 0);
            due("18: all safe", Check.laid("t0,40,0,9;c10,10;").best(0, n, -1), 1 << (2 * n));
            due("18: none safe", Check.laid("t0,0,0,0;c10,10;").best(0, n, -1), 0);
        }
        PaidToGoAway burnt = Check.laid("t0,0,0,0;t0,50,0,9;c10,10;");
        burnt.pass(1);
        for (int n = 1; n <= 4; n++) {
            for (int k = -1; k <= n; k++) {
                due("18: burnt", burnt.best(0, n, k), Check.NO);
            }
            due("18: burnt, and k too far", burnt.best(0, n, n + 1), Check.BAD);
        }
        burnt.raise(1, 0);
        due("18: raised", burnt.best(0, 1, 0), 7);
    }

    /** Rivers of two towns, small enough to do each of the 16 twos in earnest. */
    private static void restsInEarnest() {
        int[] firsts = new int[16];
        int rivers = 0;
        for (int one = 0; one < 48; one++) {
            for (int other = 0; other < 48; other += 5) {
                String text = townOf(one) + townOf(other) + (one % 2 == 0 ? "c11,9;c7,12;" : "c12,15;") + "b3;";
                int first = restsInEarnest(text, 0, 1);
                restsInEarnest(text, 1, 0);
                firsts[first]++;
                rivers++;
            }
        }
        int kinds = 0;
        for (int many : firsts) {
            kinds += many > 0 ? 1 : 0;
        }
        due("19: rivers", rivers, 480);
        due("19: with many kinds of rests", kinds >= 5 ? 1 : 0, 1);
    }

    private static String townOf(int number) {
        int[] silver = {4, 9, 15};
        int[] walls = {0, 1, 2, 3};
        return "t" + number % 4 + "," + silver[number / 4 % 3] + ",0," + walls[number / 12] + ";";
    }

    private static int restsInEarnest(String text, int t, int u) {
        int[][] has = new int[16][2];
        for (int two = 0; two < 16; two++) {
            PaidToGoAway y = Check.laid(text);
            y.way(t, two / 4);
            y.way(u, two % 4);
            y.pass(1);
            has[two][0] = y.town(t, SILVER);
            has[two][1] = y.town(u, SILVER);
        }
        int many = 0;
        int first = Check.NONE;
        for (int two = 15; two >= 0; two--) {
            boolean rest = true;
            for (int way = 0; way < 4; way++) {
                rest &= has[4 * way + two % 4][0] <= has[two][0];
                rest &= has[two / 4 * 4 + way][1] <= has[two][1];
            }
            many += rest ? 1 : 0;
            first = rest ? two : first;
        }
        PaidToGoAway x = Check.laid(text);
        String stood = Check.state(x);
        due("19: many of " + text + t, x.rests(t, u, 0), many);
        due("19: first of " + text + t, x.rests(t, u, 1), first);
        CHECK.same("19: nothing changes", Check.state(x), stood);
        return first < 0 ? 0 : first;
    }

    /** "by another WAY alone": each of the four ways can be the one by which alone it would have more. */
    private static void eachWayAlone() {
        // Paying the first crew leaves too little for the second one, which 5 men's walls hold off: 8, by sending on 6.
        PaidToGoAway paying = Check.laid("t0,20,0,1;t0,9,0,0;c10,12;c3,30;b30;");
        due("19: paying alone", paying.rests(0, 1, 1) / 4, 0);
        due("18: paying alone", paying.best(0, 1, 1), 0);
        due("18: paying alone", paying.best(0, 1, 0), 8);
        PaidToGoAway refusing = Check.laid("t0,20,0,9;t0,9,0,0;c10,12;");
        due("19: refusing alone", refusing.rests(0, 1, 1) / 4, 1);
        PaidToGoAway sending = Check.laid("t0,20,0,0;t0,9,0,0;c10,12;");
        due("19: sending on alone", sending.rests(0, 1, 1) / 4, 2);
        PaidToGoAway building = Check.laid("t0,20,0,1;t0,9,0,0;c10,60;b1;");
        due("19: building alone", building.rests(0, 1, 1) / 4, 3);
        String[] rivers = {"t0,20,0,1;t0,9,0,0;c10,12;c3,30;b30;", "t0,20,0,9;t0,9,0,0;c10,12;", "t0,20,0,0;t0,9,0,0;c10,12;",
            "t0,20,0,1;t0,9,0,0;c10,60;b1;", "t3,0,0,9;t0,20,0,1;c10,24;c3,60;w0,1;b30;"};
        for (String river : rivers) {
            restsInEarnest(river, 0, 1);
            restsInEarnest(river, 1, 0);
        }
    }

    /** "RESTS of two TOWNS": such as there are, not alike; "of the 16 twos of WAYS", "the first of these". */
    private static void restsOfTwo() {
        // Two crews meet the first town, which pays them nothing and sends them home: the others are as well off by all ways.
        PaidToGoAway x = Check.laid("t3,9,0,0;t0,9,0,0;t2,9,0,0;t1,9,0,0;c1,1;c2,1;");
        for (int t = -1; t <= 5; t++) {
            for (int u = -1; u <= 5; u++) {
                for (int what = -1; what <= 2; what++) {
                    boolean good = t >= 0 && t < 4 && u >= 0 && u < 4 && t != u && (what == 0 || what == 1);
                    String call = "19: rests " + t + " " + u + " " + what;
                    if (t > 0 && u > 0) {
                        due(call, x.rests(t, u, what), !good ? Check.BAD : what == 1 ? 0 : 16);
                    } else {
                        due(call, x.rests(t, u, what) == Check.BAD ? 1 : 0, good ? 0 : 1);
                    }
                }
            }
        }
        // Behind its walls each keeps 9 by all ways but paying: three by three, the first of them 4 times 1 and 1.
        PaidToGoAway y = Check.laid("t0,9,0,9;t0,9,0,9;c1,1;");
        due("19: three by three", y.rests(0, 1, 0), 9);
        due("19: 4 times 1 and 1", y.rests(0, 1, 1), 5);
    }

    /** "the least WALLS (0 to 20) by which, were they a TOWN's now, it would not be BURNT". */
    private static void leastWalls() {
        for (int men = 1; men <= 60; men++) {
            for (int kind = 0; kind <= 3; kind++) {
                int each = kind == 1 ? 6 : 5;
                for (int has = 0; has <= 9; has += 3) {
                    PaidToGoAway x = Check.laid("t" + kind + ",9,0," + has + ";c" + men + ",60;w0,1;");
                    due("20: " + men + " men, kind " + kind, x.walled(0, 1), (men + each - 1) / each);
                    due("20: they are fewer each spring", x.walled(0, 20), (men + each - 1) / each);
                    due("20: its own stay", x.town(0, WALLS), has);
                }
            }
            due("20: one more is built", Check.laid("t0,1,0,0;c" + men + ",60;w0,3;b1;").walled(0, 1), (men - 1) / 5);
        }
    }

    /** "(0 to 20)": 90 to 99 men; 20 walls hold them all. */
    private static void twentyWalls() {
        for (int silver = 40; silver <= 99; silver++) {
            for (int kind = 0; kind <= 1; kind++) {
                String river = "t3," + silver + ",10,0;" + "t0,99,30,0;".repeat(4) + "t" + kind + ",99,30,0;"
                    + "c60,60;w0,2;w1,2;w2,2;w3,2;w4,2;w5,2;";
                PaidToGoAway x = Check.laid(river);
                x.pass(3);
                x.way(0, 1);
                x.pass(1);
                int men = x.crew(0, 0);
                due("20: many men", men >= 97 && men <= 99 ? 1 : 0, 1);
                x.way(1, 1);
                due("20: " + men + " men", x.walled(1, 1), 20);
                for (int t = 1; t <= 4; t++) {
                    x.way(t, 2);
                }
                x.way(5, 1);
                due("20: " + men + " men at the last town", x.walled(5, 1), kind == 1 ? 17 : 20);
            }
        }
        int[] walls = {12, 15, 17, 20};
        for (int springs = 0; springs <= 3; springs++) {
            PaidToGoAway x = Check.laid("t0,99,30,0;".repeat(6) + "c60,60;w0,2;w1,2;w2,2;w3,2;w4,2;w5,2;");
            passAll(x, springs);
            due("20: 12 men more a spring", x.crew(0, 0), 60 + 12 * springs);
            x.way(0, 1);
            due("20: " + (60 + 12 * springs) + " men", x.walled(0, 1), walls[springs]);
        }
    }

    /** "in n (1 to 20) SPRINGS": burnt in the n-th spring and in none before it. */
    private static void oneToTwentySprings() {
        for (int silver = 0; silver <= 25; silver++) {
            PaidToGoAway x = Check.laid("t0," + silver + ",0,3;c50,1;");
            for (int n = -2; n <= 23; n++) {
                int want = n < 1 || n > 20 ? Check.BAD : n <= silver ? 0 : 10;
                due("20: " + silver + " in " + n, x.walled(0, n), want);
            }
        }
        PaidToGoAway burnt = Check.laid("t0,0,0,9;t0,0,0,9;c60,1;");
        burnt.pass(1);
        for (int n = -1; n <= 22; n++) {
            due("20: burnt, " + n, burnt.walled(0, n), n < 1 || n > 20 ? Check.BAD : Check.NO);
            due("20: no town", burnt.walled(2, n), Check.BAD);
            due("20: no town", burnt.walled(-1, n), Check.BAD);
        }
    }

    public static void main(String[] args) {
        zeroToThirtySprings();
        paidNotTaken();
        fireInThirtySprings();
        fireOfSeveral();
        oneToFourSprings();
        theFirstOfSeveral();
        safe();
        restsInEarnest();
        eachWayAlone();
        restsOfTwo();
        leastWalls();
        twentyWalls();
        oneToTwentySprings();
        CHECK.end();
    }
}
