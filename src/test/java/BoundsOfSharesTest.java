/** Promises 21 to 29, and section 4 of the document: each sentence that names a bound, on both sides of it. */
public final class BoundsOfSharesTest {
    private static final Check CHECK = new Check("BoundsOfSharesTest");
    private static final int SILVER = 1, BURNT = 5, PAID = 6;

    private static void due(String what, long got, long want) {
        CHECK.due(what, got, want);
    }

    private static void shareIs(String what, PaidToGoAway x, int t, int above, int below) {
        due("21: above, " + what, x.together(t, 0), above);
        due("21: below, " + what, x.together(t, 1), below);
    }

    /** "times the SILVER of a TOWN by the SILVER of all these, in lowest terms". */
    private static void lowestTerms() {
        for (int one = 0; one <= 99; one++) {
            for (int other = 0; other <= 20; other++) {
                // Asked: 12 of the one, 6 of the holy one.
                PaidToGoAway x = Check.laid("t0," + one + ",0,0;t3," + other + ",0,0;c9,12;");
                int all = one + other;
                int[] silver = {one, other};
                for (int t = 0; t <= 1; t++) {
                    String what = one + " and " + other;
                    if (all == 0) {
                        shareIs(what, x, t, Check.NONE, Check.NONE);
                    } else {
                        int common = 1;
                        for (int by = 2; by <= all; by++) {
                            common = 18 * silver[t] % by == 0 && all % by == 0 ? by : common;
                        }
                        shareIs(what, x, t, 18 * silver[t] / common, all / common);
                    }
                }
            }
        }
    }

    /** "all that CREWS not GONE would ASK now of all TOWNS not BURNT", "none (they have none, it is BURNT)". */
    private static void whoSharesAndWhoAsks() {
        PaidToGoAway none = Check.laid("t0,0,0,0;t3,0,0,0;c9,7;");
        shareIs("they have none", none, 0, Check.NONE, Check.NONE);
        shareIs("they have none", none, 1, Check.NONE, Check.NONE);
        PaidToGoAway one = Check.laid("t0,0,0,0;t0,1,0,0;c9,7;");
        shareIs("it has none, another one has 1", one, 0, 0, 1);
        shareIs("it has all", one, 1, 14, 1);
        PaidToGoAway x = Check.laid("t0,9,0,0;t0,40,0,0;t3,60,0,0;c9,10;c9,21;w1,1;");
        shareIs("31, 31 and 15 of 109", x, 0, 77 * 9, 109);
        x.land(2, 1);
        shareIs("10, 10 and 5 of 109", x, 0, 25 * 9, 109);
        x.pass(1);
        due("21: burnt", x.town(0, BURNT), 1);
        shareIs("it is burnt", x, 0, Check.NONE, Check.NONE);
        shareIs("10 and 5 of 100", x, 1, 6, 1);
        shareIs("10 and 5 of 100", x, 2, 9, 1);
        x.land(2, 0);
        shareIs("all crews are gone", x, 1, 0, 1);
        shareIs("all crews are gone, it is burnt", x, 0, Check.NONE, Check.NONE);
        PaidToGoAway burnt = Check.laid("t0,9,0,0;t0,0,0,9;c9,10;");
        burnt.pass(1);
        shareIs("all that is left has none", burnt, 1, Check.NONE, Check.NONE);
        for (int t = -1; t <= 4; t++) {
            for (int part = -2; part <= 3; part++) {
                boolean good = t >= 0 && t < 3 && (part == 0 || part == 1);
                due("21: together " + t + " " + part, x.together(t, part) == Check.BAD ? 1 : 0, good ? 0 : 1);
            }
        }
    }

    /** "FOUND (6 at most) is how much SILVER (0 to 999) a TOWN had behind t SPRINGS (1 to 20)". */
    private static void whatIsFound() {
        int[][] silvers = {{-1, 0}, {0, 1}, {1, 1}, {998, 1}, {999, 1}, {1000, 0}, {-1000, 0}, {9999, 0}};
        for (int t = -1; t <= 4; t++) {
            for (int spring = -1; spring <= 22; spring++) {
                for (int[] silver : silvers) {
                    PaidToGoAway x = Check.laid("t0,9,0,0;t0,9,0,0;t0,9,0,0;c9,9;");
                    boolean good = t >= 0 && t < 3 && spring >= 1 && spring <= 20 && silver[1] == 1;
                    due("22: " + t + " " + spring + " " + silver[0], x.found(t, spring, silver[0]), good ? 1 : Check.BAD);
                    due("29: found", x.count(6), good ? 1 : 0);
                }
            }
        }
        PaidToGoAway x = new PaidToGoAway();
        for (int many = 1; many <= 6; many++) {
            due("22: how many", x.found(many % 4, many, many), many);
        }
        due("22: a seventh", x.found(0, 1, 1), Check.FULL);
        due("22: a seventh that is none", x.found(0, 0, 1), Check.BAD);
        due("22: 6 at most", x.count(6), 6);
        due("23: how many were", x.forget(), 6);
        due("23: how many were", x.forget(), 0);
        due("22: room again", x.found(0, 1, 1), 1);
        due("23: how many were", x.forget(), 1);
    }

    private static void hoardIs(String what, PaidToGoAway x, int t, int many, int lowest) {
        due("24: how many, " + what, x.hoard(t, 0), many);
        due("24: the lowest, " + what, x.hoard(t, 1), lowest);
    }

    /** "how many S (0 to 99) it can have had at first .. none". */
    private static void hoardsFrom0To99() {
        for (int silver = 0; silver <= 130; silver++) {
            PaidToGoAway x = Check.laid("t0,50,1,9;t0,7,0,9;c1,1;w0,1;w1,1;");
            x.found(0, 20, silver);
            boolean can = silver >= 20 && silver <= 119;
            hoardIs("20 springs, " + silver, x, 0, can ? 1 : 0, can ? silver - 20 : Check.NONE);
            boolean own = silver == 70;
            hoardIs("of the other one, " + silver, x, 1, own ? 100 : 0, own ? 0 : Check.NONE);
            x.forget();
            x.found(0, 1, silver);
            can = silver >= 1 && silver <= 100;
            hoardIs("1 spring, " + silver, x, 0, can ? 1 : 0, can ? silver - 1 : Check.NONE);
        }
        PaidToGoAway x = Check.laid("t0,50,0,0;c9,30;");
        hoardIs("nothing is found", x, 0, 100, 0);
        x.found(0, 1, 0);
        hoardIs("30 and all that is burnt", x, 0, 31, 0);
        x.found(0, 2, 0);
        hoardIs("the same again a spring later", x, 0, 31, 0);
        x.found(0, 3, 1);
        hoardIs("what cannot be", x, 0, 0, Check.NONE);
        for (int t = -1; t <= 2; t++) {
            for (int what = -1; what <= 2; what++) {
                boolean good = t == 0 && (what == 0 || what == 1);
                due("24: hoard " + t + " " + what, x.hoard(t, what) == Check.BAD ? 1 : 0, good ? 0 : 1);
            }
        }
    }

    /** "so that all that is FOUND (of any TOWN) would be so": each of six, in whatever order it was found. */
    private static void allThatIsFound() {
        for (int wrong = -1; wrong < 6; wrong++) {
            PaidToGoAway x = Check.laid("t0,50,3,9;t0,60,2,9;c1,1;w0,1;w1,1;");
            for (int i = 0; i < 6; i++) {
                int t = i % 2;
                int spring = i == 0 ? 20 : i;
                x.found(t, spring, (t == 0 ? 50 + 3 * spring : 60 + 2 * spring) + (i == wrong ? 1 : 0));
            }
            hoardIs("the " + wrong + "-th is not so", x, 0, wrong < 0 ? 1 : 0, wrong < 0 ? 50 : Check.NONE);
            hoardIs("the " + wrong + "-th is not so", x, 1, wrong < 0 ? 1 : 0, wrong < 0 ? 60 : Check.NONE);
        }
        PaidToGoAway twice = Check.laid("t0,50,3,9;c1,1;w0,1;");
        twice.found(0, 4, 62);
        twice.found(0, 4, 62);
        hoardIs("the same twice", twice, 0, 1, 50);
        twice.found(0, 4, 63);
        hoardIs("two that are not one", twice, 0, 0, Check.NONE);
        PaidToGoAway forgotten = Check.laid("t0,50,3,9;c1,1;w0,1;");
        for (int i = 0; i < 6; i++) {
            forgotten.found(0, 1, 1);
        }
        hoardIs("six that cannot be", forgotten, 0, 0, Check.NONE);
        forgotten.forget();
        hoardIs("nothing is found any more", forgotten, 0, 100, 0);
        for (int i = 1; i <= 5; i++) {
            forgotten.found(0, i, 40 + 3 * i);
            hoardIs("what was forgotten does not count", forgotten, 0, 1, 40);
        }
    }

    /** "from when all was LAID, nothing else being done": whatever has been done since. */
    private static void fromWhenAllWasLaid() {
        String river = "t2,60,9,1;t3,45,7,2;t1,30,12,4;c24,14;c17,25;c9,9;w0,2;w1,0;w2,3;b4;";
        for (int t = 0; t < 3; t++) {
            PaidToGoAway fresh = Check.laid(river);
            PaidToGoAway x = Check.laid(river);
            x.way(0, 1);
            x.way(1, 1);
            x.hire(0, 0, 1);
            x.pass(4);
            x.land(2, 2);
            x.keep();
            x.pass(10);
            x.springs(3, 30, 0);
            for (int spring = 1; spring <= 20; spring++) {
                int silver = fresh.behind(spring, t, 0);
                due("22: found", x.found(t, spring, silver), 1);
                fresh.found(t, spring, silver);
                for (int of = 0; of < 3; of++) {
                    due("24: as of a new one", x.hoard(of, 0), fresh.hoard(of, 0));
                    due("24: as of a new one", x.hoard(of, 1), fresh.hoard(of, 1));
                    due("24: what it had at first can be", x.hoard(of, 0) >= 1 ? 1 : 0, 1);
                }
                x.forget();
                fresh.forget();
            }
        }
    }

    /** "each being the only one there is, would have been paid just n (0 to 9999) in all by a TOWN in t (1 to 20) SPRINGS". */
    private static void whoseInEarnest() {
        String towns = "t2,60,9,1;t3,45,7,2;t1,90,12,4;";
        String[] crews = {"c24,14;", "c17,25;", "c30,9;"};
        String ways = "w0,2;w1,0;w2,2;";
        for (int spring = 1; spring <= 20; spring++) {
            PaidToGoAway x = Check.laid(towns + crews[0] + crews[1] + crews[2] + ways);
            for (int t = 0; t < 3; t++) {
                int[] paid = new int[3];
                for (int c = 0; c < 3; c++) {
                    PaidToGoAway alone = Check.laid(towns + crews[c] + ways);
                    alone.pass(Math.min(10, spring));
                    if (spring > 10) {
                        alone.pass(spring - 10);
                    }
                    paid[c] = alone.town(t, PAID);
                }
                for (int n : new int[] {0, paid[0] - 1, paid[0], paid[0] + 1, paid[1], paid[1] + 1, paid[2], paid[2] - 1}) {
                    int bits = 0;
                    for (int c = 0; c < 3; c++) {
                        bits += paid[c] == n ? 1 << c : 0;
                    }
                    due("25: whose " + t + " " + spring + " " + n, x.whose(t, spring, n), n < 0 ? Check.BAD : bits);
                }
            }
        }
    }

    private static void whoseBounds() {
        int[][] paid = {{-1, Check.BAD}, {0, 1}, {8, 0}, {9, 2}, {10, 0}, {9998, 0}, {9999, 0}, {10000, Check.BAD}};
        for (int t = -1; t <= 3; t++) {
            PaidToGoAway x = Check.laid("t0,9,0,9;t0,9,0,9;c9,10;c9,9;");
            for (int spring = -1; spring <= 22; spring++) {
                for (int[] n : paid) {
                    boolean good = t >= 0 && t < 2 && spring >= 1 && spring <= 20;
                    // Held off by the first town, the one with hunger 9 has been paid and gone home for good.
                    int want = !good ? Check.BAD : t == 0 ? n[1] : secondTownPaid(spring, n);
                    due("25: whose " + t + " " + spring + " " + n[0], x.whose(t, spring, n[0]), want);
                }
            }
        }
        for (int crews = 1; crews <= 3; crews++) {
            int all = (1 << crews) - 1;
            due("25: all bits", Check.laid("t0,9,0,9;" + "c9,4;".repeat(crews)).whose(0, 1, 4), all);
            due("25: no bits", Check.laid("t0,9,0,9;" + "c9,4;".repeat(crews)).whose(0, 1, 5), 0);
        }
    }

    // The second town pays the one crew never (10 of 9), the other from the second spring on, once.
    private static int secondTownPaid(int spring, int[] n) {
        if (n[1] == Check.BAD) {
            return Check.BAD;
        }
        int other = spring >= 2 ? 9 : 0;
        return (n[0] == 0 ? 1 : 0) + (n[0] == other ? 2 : 0);
    }

    private static int drawn(long z, long k, long i) {
        long x = 7919 * z + 6151 * k + 331 * i + 1;
        return (int) (x * x % 65521 / 8 % 5);
    }

    /** "SPRINGS by z (0 to 9999), n (1 to 30) of them from now on": "BURNT (what = 0), SILVER of all (1)". */
    private static void springsBounds() {
        for (int z : new int[] {-2, -1, 0, 1, 9998, 9999, 10000, 10001}) {
            PaidToGoAway x = Check.laid("t0,5,1,9;t0,7,0,0;c1,60;w0,1;");
            for (int n = -1; n <= 32; n++) {
                for (int what = -1; what <= 2; what++) {
                    boolean good = z >= 0 && z <= 9999 && n >= 1 && n <= 30 && (what == 0 || what == 1);
                    // 1 man and 4 more in each spring at most, less 2 in each: 45 are more than 17 springs can bring.
                    if (good && n > 17) {
                        due("26: springs " + z + " " + n, x.springs(z, n, what) >= 0 ? 1 : 0, 1);
                    } else {
                        int want = what == 0 ? 1 : 5 + n;
                        due("26: springs " + z + " " + n + " " + what, x.springs(z, n, what), good ? want : Check.BAD);
                    }
                }
            }
        }
    }

    /**
     * "ahead of the k-th (0 first) CREW i .. is DRAW modulo 5 men more": of 30 springs each, by the last z as by the first,
     * and "from now on": behind springs gone by the next one is the 0th as well.
     */
    private static void drawsOfThirtySprings() {
        for (int z : new int[] {0, 1, 4999, 9998, 9999}) {
            for (int crew = 0; crew <= 2; crew++) {
                for (int men = 46; men <= 60; men += 2) {
                    String crews = "c1,60;".repeat(crew) + "c" + men + ",60;" + "c1,60;".repeat(2 - crew);
                    PaidToGoAway x = Check.laid("t0,10,1,9;" + crews + "w0,1;");
                    for (int gone = 0; gone <= 2; gone++) {
                        if (gone != crew) {
                            x.land(0, gone);
                        }
                    }
                    springsInEarnest(x, z, crew, men);
                    x.pass(3);
                    springsInEarnest(x, z, crew, men - 6);
                }
            }
        }
    }

    // The walls are 13 by two crews' land, so 65 men are held off, and the income is none.
    private static void springsInEarnest(PaidToGoAway x, int z, int crew, int men) {
        int now = men;
        boolean burnt = false;
        for (int k = 0; k < 30; k++) {
            now = Math.min(99, now + drawn(z, k, crew));
            burnt |= now > 65;
            now = Math.max(1, now - 2);
            due("26: burnt, crew " + crew + " of " + men + ", " + z + " " + k, x.springs(z, k + 1, 0), burnt ? 1 : 0);
            due("26: silver, crew " + crew + " of " + men + ", " + z + " " + k, x.springs(z, k + 1, 1), burnt ? 0 : 10);
        }
    }

    /** "(99 at most)": 97 men come to 20 walls, less 2 then to a proud one's 16, that hold 96. */
    private static void ninetyNineMenDrawn() {
        PaidToGoAway x = Check.laid("t0,99,30,9;t1,99,30,9;" + "t0,99,30,9;".repeat(4) + "c1,60;w0,3;w1,3;w2,1;w3,1;w4,1;w5,1;b1;");
        x.pass(7);
        x.way(1, 1);
        x.pass(4);
        due("26: 20 walls", x.town(0, 3), 20);
        due("26: 16 walls", x.town(1, 3), 16);
        for (int t = 0; t < 6; t++) {
            x.way(t, 2);
        }
        x.pass(8);
        due("26: 97 men", x.crew(0, 0), 97);
        x.way(0, 1);
        x.way(1, 1);
        int all = x.count(5) + 6 * 30;
        int[] drawn = new int[5];
        for (int z = 0; z < 40; z++) {
            drawn[drawn(z, 0, 0)]++;
            boolean burnt = 97 + drawn(z, 0, 0) > 98;
            due("26: 97 and " + drawn(z, 0, 0), x.springs(z, 1, 0), burnt ? 1 : 0);
            int want = burnt ? all - x.town(1, SILVER) - 30 : all - 4 * 20;
            due("26: 97 and " + drawn(z, 0, 0) + ", silver", x.springs(z, 1, 1), want);
        }
        for (int draw = 0; draw < 5; draw++) {
            due("26: each draw came", drawn[draw] > 0 ? 1 : 0, 1);
        }
    }

    /** "KEPT is all as it stands .. 2 at most", "how many are left", "it is KEPT no more then". */
    private static void twoKept() {
        PaidToGoAway x = Check.laid("t0,60,9,9;t2,60,2,0;t0,9,1,0;c40,15;c9,5;c8,8;w0,1;w2,2;");
        String[] was = new String[3];
        due("28: nothing is kept", x.back(), Check.NO);
        was[0] = Check.brief(x);
        due("27: the first", x.keep(), 1);
        x.pass(2);
        x.hire(0, 0, 1);
        x.land(0, 2);
        was[1] = Check.brief(x);
        due("27: the second", x.keep(), 2);
        x.pass(3);
        x.way(1, 1);
        was[2] = Check.brief(x);
        due("27: no third", x.keep(), Check.FULL);
        CHECK.same("27: FULL changes nothing", Check.brief(x), was[2]);
        due("27: what can be undone stays", x.count(7), 5);
        due("28: one is left", x.back(), 1);
        CHECK.same("28: as kept last", Check.brief(x), was[1]);
        due("27: room for one", x.keep(), 2);
        due("27: and no more", x.keep(), Check.FULL);
        due("28: one is left", x.back(), 1);
        due("28: none is left", x.back(), 0);
        CHECK.same("28: as kept first", Check.brief(x), was[0]);
        due("28: it is kept no more", x.back(), Check.NO);
        CHECK.same("28: NO changes nothing", Check.brief(x), was[0]);
        due("27: room for two", x.keep(), 1);
        due("27: room for two", x.keep(), 2);
    }

    /** "but what is FOUND and THE TEXT (these stay by back(), behind which nothing can be UNDONE)". */
    private static void whatStaysByBack() {
        PaidToGoAway x = Check.laid("t0,60,9,9;c9,5;");
        x.pass(1);
        x.found(0, 1, 64);
        x.keep();
        due("27: what can be undone stays", x.count(7), 1);
        x.found(0, 2, 68);
        x.write('b');
        x.pass(2);
        due("28: back", x.back(), 0);
        due("28: what is found stays", x.count(6), 2);
        due("28: and is as it was found", x.hoard(0, 1), 60);
        due("28: THE TEXT stays", x.count(9), 15 + 1);
        due("28: nothing can be undone", x.count(7), 0);
        due("28: nothing can be undone", x.undo(), Check.NO);
        due("28: NO changes nothing", x.count(2), 1);
        x.pass(1);
        due("15: but what comes behind it", x.undo(), 0);
        due("15: but what comes behind it", x.count(2), 1);
        x.keep();
        x.forget();
        x.wipe();
        x.back();
        due("28: nothing is found, still", x.count(6), 0);
        due("28: no text, still", x.count(9), 0);
        // Undone behind keep: what is kept does not change by it.
        x.pass(4);
        String stood = Check.brief(x);
        x.keep();
        x.undo();
        due("15: undone behind keep", x.count(2), 1);
        x.back();
        CHECK.same("28: as it was kept", Check.brief(x), stood);
    }

    /** "count": each at the most that it can be. */
    private static void mostOfAll() {
        PaidToGoAway x = Check.written("t0,99,30,9;".repeat(6) + "c60,60;c60,60;c60,60;w0,2;w1,2;w2,2;w3,2;w4,2;w5,2;");
        due("5: lay", x.lay(), 6);
        for (int i = 0; i < 3; i++) {
            x.land(i, i);
        }
        for (int i = 0; i < 10; i++) {
            x.pass(10);
            x.found(0, 1, 1);
            x.keep();
        }
        Check.write(x, " ".repeat(200));
        // Three have no income left but 30 less 30: they keep what they have.
        int[] due = {6, 3, 100, 0, 3, 3 * 99 + 3 * 999, 6, 8, 2, 200};
        for (int what = 0; what <= 9; what++) {
            due("29: count " + what, x.count(what), due[what]);
        }
        PaidToGoAway burnt = Check.laid("t0,1,10,0;".repeat(6) + "c60,60;c60,60;c60,60;");
        burnt.pass(1);
        due("29: three burnt", burnt.count(3), 3);
        due("29: what the others have", burnt.count(5), 3 * 11);
        burnt.pass(1);
        due("29: all burnt", burnt.count(3), 6);
        due("29: nobody has any", burnt.count(5), 0);
    }

    public static void main(String[] args) {
        lowestTerms();
        whoSharesAndWhoAsks();
        whatIsFound();
        hoardsFrom0To99();
        allThatIsFound();
        fromWhenAllWasLaid();
        whoseInEarnest();
        whoseBounds();
        springsBounds();
        drawsOfThirtySprings();
        ninetyNineMenDrawn();
        twoKept();
        whatStaysByBack();
        mostOfAll();
        CHECK.end();
    }
}
