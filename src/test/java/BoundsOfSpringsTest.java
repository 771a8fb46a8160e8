/** Promises 10 to 15, and section 2 of the document: each sentence that names a bound, on both sides of it. */
public final class BoundsOfSpringsTest {
    private static final Check CHECK = new Check("BoundsOfSpringsTest");
    private static final int SILVER = 1, INCOME = 2, WALLS = 3, WAY = 4, BURNT = 5, PAID = 6;

    private static void due(String what, long got, long want) {
        CHECK.due(what, got, want);
    }

    private static PaidToGoAway after(String text, int n) {
        PaidToGoAway x = Check.laid(text);
        passAll(x, n);
        return x;
    }

    private static void passAll(PaidToGoAway x, int n) {
        for (int left = n; left > 0; left -= 10) {
            x.pass(Math.min(10, left));
        }
    }

    private static void townIs(String what, PaidToGoAway x, int t, int silver, int burnt, int paid) {
        due(what + ", silver of " + t, x.town(t, SILVER), silver);
        due(what + ", burnt " + t, x.town(t, BURNT), burnt);
        due(what + ", paid by " + t, x.town(t, PAID), paid);
    }

    /** "n SPRINGS (1 to 10) go by: how many have gone by in all". */
    private static void oneToTenSprings() {
        for (int n = -2; n <= 13; n++) {
            PaidToGoAway x = Check.laid("t0,5,3,9;c1,1;w0,1;");
            boolean good = n >= 1 && n <= 10;
            due("10: pass " + n, x.pass(n), good ? n : Check.BAD);
            due("10: springs gone by", x.count(2), good ? n : 0);
            due("10: silver", x.town(0, SILVER), good ? 5 + 3 * n : 5);
            due("10: in all", x.pass(10), good ? n + 10 : 10);
        }
    }

    /** "Each TOWN that is not BURNT gets its income (999 SILVER at most)". */
    private static void income() {
        for (int first = 0; first <= 99; first++) {
            PaidToGoAway x = after("t0," + first + ",30,9;c1,1;w0,1;", 30);
            due("10: 30 springs", x.town(0, SILVER), Math.min(999, 900 + first));
            x.pass(1);
            due("10: 31 springs", x.town(0, SILVER), Math.min(999, 930 + first));
            x.pass(3);
            due("10: 34 springs, 999 at most", x.town(0, SILVER), Math.min(999, 1020 + first));
        }
        PaidToGoAway none = after("t0,7,0,9;c1,1;w0,1;", 10);
        due("10: no income", none.town(0, SILVER), 7);
        PaidToGoAway burnt = after("t0,7,5,0;t0,99,0,9;c9,60;w0,1;w1,1;", 1);
        townIs("10: burnt", burnt, 0, 0, 1, 0);
        burnt.pass(9);
        townIs("10: a burnt one gets none", burnt, 0, 0, 1, 0);
        burnt.land(1, 0);
        burnt.raise(1, 0);
        burnt.pass(1);
        townIs("10: a raised one gets it again", burnt, 0, 15, 0, 0);
    }

    /** "Each not BURNT that BUILDS, has the cost and fewer than 20 WALLS pays it, and has 1 more", income first. */
    private static void building() {
        for (int cost = 1; cost <= 30; cost++) {
            for (int income = 0; income <= 1; income++) {
                String behind = "," + income + ",9;c1,60;w0,3;b" + cost + ";";
                PaidToGoAway poor = after("t0," + (cost - 1 - income < 0 ? 0 : cost - 1 - income) + behind, 1);
                if (cost - 1 - income >= 0) {
                    due("10: one short of the cost", poor.town(0, WALLS), 9);
                    due("10: one short of the cost", poor.town(0, SILVER), cost - 1);
                }
                PaidToGoAway just = after("t0," + (cost - income) + behind, 1);
                due("10: just the cost", just.town(0, WALLS), 10);
                due("10: just the cost", just.town(0, SILVER), 0);
                PaidToGoAway more = after("t0," + (cost - income + 1) + behind, 1);
                due("10: more than the cost", more.town(0, WALLS), 10);
                due("10: more than the cost", more.town(0, SILVER), 1);
            }
        }
        PaidToGoAway x = after("t0,99,0,9;c1,60;w0,3;b1;", 10);
        due("10: 19 walls", x.town(0, WALLS), 19);
        due("10: 19 walls", x.town(0, SILVER), 89);
        x.pass(1);
        due("10: the 20th wall", x.town(0, WALLS), 20);
        due("10: the 20th wall is paid", x.town(0, SILVER), 88);
        x.pass(1);
        due("10: no 21st wall", x.town(0, WALLS), 20);
        due("10: no 21st wall is paid", x.town(0, SILVER), 88);
        for (int way = 0; way <= 2; way++) {
            PaidToGoAway other = after("t0,99,0,9;c1,1;w0," + way + ";b1;", 1);
            due("10: by way " + way + " nothing is built", other.town(0, WALLS), 9);
        }
        PaidToGoAway burnt = after("t0,9,9,0;c30,60;w0,3;b1;", 3);
        due("10: a burnt one builds no more", burnt.town(0, WALLS), 1);
        due("10: a burnt one pays nothing", burnt.town(0, SILVER), 0);
        // The wall stands ahead of the crews, and what it cost is gone ahead of them.
        townIs("10: 5 men, the new wall", after("t0,1,0,0;c5,60;w0,3;b1;", 1), 0, 0, 0, 0);
        townIs("10: 6 men, the new wall", after("t0,1,0,0;c6,60;w0,3;b1;", 1), 0, 0, 1, 0);
    }

    /** "CREWS, 0 first, that are not GONE, come up": to each town, 0 first, that is not burnt. */
    private static void crewsThatCome() {
        PaidToGoAway x = Check.laid("t0,50,0,0;t0,60,0,0;c9,7;c9,8;c9,9;");
        x.pass(1);
        townIs("10: three come", x, 0, 50 - 24, 0, 24);
        townIs("10: none goes on", x, 1, 60, 0, 0);
        x.land(1, 1);
        x.pass(1);
        townIs("10: one that is gone does not come", x, 0, 26 - 16, 0, 40);
        // 10 less 7 leaves 3: the next one burns it, the river's next town is the first then.
        x.pass(1);
        townIs("10: what the first left is too little", x, 0, 0, 1, 47);
        townIs("10: none is left for it", x, 1, 60, 0, 0);
        x.pass(1);
        townIs("10: on to the next town", x, 1, 60 - 16, 0, 16);
        // The last silver goes to crew 0, so it is crew 1 that burns.
        PaidToGoAway y = after("t0,7,0,0;t0,9,0,9;c9,7;c9,7;w1,1;", 1);
        due("10: crew 0 first", y.believes(0, 0), 14);
        due("10: crew 1 behind it", y.believes(1, 0), 0);
        townIs("10: crew 1 behind it", y, 0, 0, 1, 7);
        PaidToGoAway all = Check.laid("t0,5,5,0;c9,9;");
        all.land(0, 0);
        passAll(all, 20);
        due("10: with all gone nobody comes", all.town(0, BURNT), 0);
        due("10: with all gone income comes", all.town(0, SILVER), 5 + 20);
    }

    /** "they ASK HUNGER, or half of what they BELIEVE of it, cut, where that is more; of a HOLY one half of that, cut". */
    private static void asking() {
        for (int hunger = 1; hunger <= 60; hunger++) {
            for (int kind = 0; kind <= 3; kind++) {
                int want = kind == 3 ? hunger / 2 : hunger;
                PaidToGoAway x = Check.laid("t" + kind + ",99,30,0;c9," + hunger + ";");
                due("9: hunger " + hunger + " of kind " + kind, x.asks(0, 0), want);
                x.pass(1);
                due("8: twice what it paid", x.believes(0, 0), 2 * want);
                due("9: half of that is no more than hunger", x.asks(0, 0), want);
                x.way(0, 2);
                x.pass(1);
                due("8: twice a third", x.believes(0, 0), 2 * (want / 3));
                due("9: hunger is more", x.asks(0, 0), want);
            }
        }
    }

    /** "PAY: it pays what is ASKED, if it has that (a FORGING one, too: all of it) .. half, cut (5 cost it 3, 1 costs it 1)". */
    private static void paying() {
        for (int hunger = 1; hunger <= 60; hunger++) {
            for (int kind = 0; kind <= 3; kind++) {
                int asked = kind == 3 ? hunger / 2 : hunger;
                int cost = kind == 2 ? asked - asked / 2 : asked;
                String town = "t" + kind + ",";
                String behind = ",0,0;t0,9,0,0;c9," + hunger + ";";
                String what = "10: kind " + kind + " pays " + asked;
                townIs(what + " of just as much", after(town + asked + behind, 1), 0, asked - cost, 0, asked);
                townIs(what + " of one more", after(town + (asked + 1) + behind, 1), 0, asked + 1 - cost, 0, asked);
                if (asked > 0) {
                    PaidToGoAway poor = after(town + (asked - 1) + behind, 1);
                    townIs(what + " of one fewer", poor, 0, 0, 1, 0);
                    due(what + " of one fewer: they had it all", poor.crew(0, 0), 9 + (asked - 1) / 10);
                }
                PaidToGoAway x = after(town + asked + behind, 1);
                townIs(what + ", they go home", x, 1, 9, 0, 0);
                due(what + ", they have all of it", x.crew(0, 0), 9 + asked / 10);
            }
        }
        townIs("10: 5 cost it 3", after("t2,5,0,0;c9,5;", 1), 0, 2, 0, 5);
        townIs("10: 1 costs it 1", after("t2,1,0,0;c9,1;", 1), 0, 0, 0, 1);
    }

    /** "SEND ON: it pays a third of what is ASKED, cut, if it has that, and they go on; else it is as by REFUSE". */
    private static void sendingOn() {
        for (int hunger = 1; hunger <= 60; hunger++) {
            for (int kind = 0; kind <= 3; kind++) {
                int third = (kind == 3 ? hunger / 2 : hunger) / 3;
                int cost = kind == 2 ? third - third / 2 : third;
                String town = "t" + kind + ",";
                String behind = ",0,0;t0,99,0,0;c9," + hunger + ";w0,2;";
                String what = "10: kind " + kind + " sends on for " + third;
                PaidToGoAway just = after(town + third + behind, 1);
                townIs(what + " of just as much", just, 0, third - cost, 0, third);
                townIs(what + ", they go on", just, 1, 99 - hunger, 0, hunger);
                due(what + ", they have both", just.crew(0, 0), 9 + (third + hunger) / 10);
                townIs(what + " of one more", after(town + (third + 1) + behind, 1), 0, third + 1 - cost, 0, third);
                if (third > 0) {
                    PaidToGoAway poor = after(town + (third - 1) + behind, 1);
                    townIs(what + " of one fewer", poor, 0, 0, 1, 0);
                    townIs(what + " of one fewer, they go home", poor, 1, 99, 0, 0);
                }
            }
        }
        // As by REFUSE means behind walls too: 45 men are held off, 46 are not.
        PaidToGoAway held = after("t0,0,0,9;t0,99,0,0;c45,60;w0,2;", 1);
        townIs("10: too little, but walls", held, 0, 0, 0, 0);
        townIs("10: too little, but walls, they go on", held, 1, 39, 0, 60);
        townIs("10: too little, too few walls", after("t0,0,0,9;t0,99,0,0;c46,60;w0,2;", 1), 0, 0, 1, 0);
    }

    /** "if their men are more than 5 times its WALLS (6 times those of a PROUD one), it is BURNT". */
    private static void walls() {
        for (int kind = 0; kind <= 3; kind++) {
            for (int walls = 0; walls <= 9; walls++) {
                for (int men = 1; men <= 60; men++) {
                    boolean burnt = men > (kind == 1 ? 6 : 5) * walls;
                    String river = "t" + kind + ",9,0," + walls + ";t0,1,0,0;c" + men + ",20;b30;w0,";
                    // Refusing, building without the cost, paying without as much: by all it is as by REFUSE.
                    for (int way : new int[] {1, 3, 0}) {
                        PaidToGoAway x = after(river + way + ";w1,1;", 1);
                        String what = "10: " + men + " men, " + walls + " walls, kind " + kind + ", way " + way;
                        due(what, x.town(0, BURNT), burnt ? 1 : 0);
                        due(what + ", all its silver", x.town(0, SILVER), burnt ? 0 : 9);
                        due(what + ", home or on", x.town(1, BURNT), burnt ? 0 : 1);
                        due(what + ", its walls stay", x.town(0, WALLS), walls);
                        due(what + ", nothing was paid", x.town(0, PAID), 0);
                        int left = burnt ? men : Math.max(1, men - 2);
                        due(what + ", men", x.crew(0, 0), left);
                    }
                }
            }
        }
    }

    /** "else they lose 2 men (1 is left at least), and go on": by each town that holds them off. */
    private static void losingMen() {
        for (int men = 1; men <= 45; men++) {
            String river = "t0,0,0,9;t0,0,0,9;t0,0,0,9;c" + men + ",60;w0,1;w1,1;w2,3;";
            PaidToGoAway x = after(river, 1);
            due("10: three times 2 of " + men, x.crew(0, 0), Math.max(1, men - 6));
            due("10: nobody is gone", x.crew(0, 2), 0);
        }
        int[] left = {1, 1, 1, 2, 3};
        for (int men = 1; men <= 5; men++) {
            due("10: 1 is left of " + men, after("t0,0,0,9;c" + men + ",60;w0,1;", 1).crew(0, 0), left[men - 1]);
        }
        // Fewer behind the one town, so the next one's walls hold: 27 are 25 there.
        townIs("10: 2 fewer at the next town", after("t0,0,0,9;t0,0,0,5;c27,60;w0,1;w1,1;", 1), 1, 0, 0, 0);
        townIs("10: 28 are 26 there", after("t0,0,0,9;t0,0,0,5;c28,60;w0,1;w1,1;", 1), 1, 0, 1, 0);
    }

    /** "they (the CREW that was paid) BELIEVE twice what it paid, from then on, of one that they BURNT 0 (of all 0 at first)". */
    private static void believing() {
        PaidToGoAway x = Check.laid("t0,99,0,0;t0,99,0,0;c9,30;c9,21;w0,2;");
        for (int c = 0; c < 2; c++) {
            for (int t = 0; t < 2; t++) {
                due("8: of all 0 at first", x.believes(c, t), 0);
            }
        }
        x.land(1, 1);
        x.pass(1);
        due("8: paid a third", x.believes(0, 0), 20);
        due("8: paid all", x.believes(0, 1), 60);
        due("8: one that was not paid", x.believes(1, 0), 0);
        x.way(0, 1);
        due("8: from then on", x.believes(0, 0), 20);
        x.pass(1);
        due("8: burnt", x.town(0, BURNT), 1);
        due("8: of one that they burnt 0", x.believes(0, 0), 0);
        due("8: of another one as it was", x.believes(0, 1), 60);
        x.undo();
        due("15: what they believed is undone too", x.believes(0, 0), 20);
        x.keep();
        x.pass(1);
        due("8: of one that they burnt 0", x.believes(0, 0), 0);
        x.back();
        due("28: what they believed was kept too", x.believes(0, 0), 20);
        // Held off: what they were paid once they believe still.
        PaidToGoAway y = after("t0,50,0,9;c9,30;", 1);
        y.way(0, 1);
        y.pass(3);
        due("8: from then on, though refused", y.believes(0, 0), 60);
        y.way(0, 2);
        y.pass(1);
        due("8: till it pays anew", y.believes(0, 0), 20);
        // One crew burns it: what another one believes stays.
        PaidToGoAway z = after("t0,50,0,0;c9,20;c9,5;", 1);
        z.way(0, 1);
        z.pass(1);
        due("8: who burnt it", z.believes(0, 0), 0);
        due("8: who did not", z.believes(1, 0), 10);
        PaidToGoAway hired = Check.laid("t0,50,0,0;c9,20;c5,5;");
        hired.hire(0, 0, 1);
        due("8: hiring is no coming up", hired.believes(0, 0), 0);
        due("6: hiring is not paid to crews", hired.town(0, PAID), 0);
    }

    /** "At home they are 1 man more for each 10 of all that they have from this SPRING, cut". */
    private static void growing() {
        for (int hunger = 1; hunger <= 60; hunger++) {
            due("10: paid " + hunger, after("t0,60,0,0;c9," + hunger + ";", 1).crew(0, 0), 9 + hunger / 10);
        }
        for (int silver = 0; silver <= 99; silver++) {
            due("10: burnt " + silver, after("t0," + silver + ",0,0;c9,60;w0,1;", 1).crew(0, 0), 9 + silver / 10);
        }
        // 19 in one spring and 1 in the next are not 20; behind the last town they go home as well.
        PaidToGoAway x = after("t0,99,0,0;c9,57;w0,2;", 1);
        due("10: 19 behind the last town", x.crew(0, 0), 10);
        x.pass(1);
        due("10: 19 again", x.crew(0, 0), 11);
        due("10: 19 and 1", after("t0,99,0,0;t0,99,0,0;c9,57;c9,3;w0,2;w1,2;", 1).crew(0, 0), 9 + 38 / 10);
        due("10: 19 and burnt 1", after("t0,19,0,0;t0,1,0,0;c9,57;w0,2;w1,1;", 1).crew(0, 0), 11);
        due("10: 18 and burnt 1", after("t0,18,0,0;t0,1,0,0;c9,54;w0,2;w1,1;", 1).crew(0, 0), 10);
    }

    /** "(99 at most)": 93 men, of which town 0 holds the silver that they burn next. */
    private static void ninetyNineMen() {
        for (int silver = 40; silver <= 99; silver++) {
            String river = "t3," + silver + ",10,0;" + "t0,99,30,0;".repeat(5) + "c60,60;w0,2;w1,2;w2,2;w3,2;w4,2;w5,2;";
            PaidToGoAway x = after(river, 3);
            due("10: 11 men more three times", x.crew(0, 0), 93);
            x.way(0, 1);
            x.pass(1);
            due("10: burnt " + (silver + 10), x.crew(0, 0), Math.min(99, 93 + (silver + 10) / 10));
            x.pass(1);
            due("10: 99 at most, still", x.crew(0, 0), Math.min(99, 93 + (silver + 10) / 10 + 10));
        }
    }

    /** "A TOWN's WAY: which it was. BAD": each way of each town there is. */
    private static void ways() {
        for (int t = -1; t <= 4; t++) {
            for (int k = -1; k <= 4; k++) {
                PaidToGoAway x = new PaidToGoAway();
                boolean good = t >= 0 && t < 4 && k >= 0 && k < 4;
                due("11: way " + t + " " + k, x.way(t, k), good ? t : Check.BAD);
                due("11: can be undone", x.count(7), good ? 1 : 0);
                for (int u = 0; u < 4; u++) {
                    due("11: it alone", x.town(u, WAY), good && u == t ? k : u);
                }
            }
        }
    }

    /** "has the HUNGER of CREW a .. pays that; both lose as many men as the fewer of both are, who has none then is GONE". */
    private static void hiring() {
        for (int kind = 0; kind <= 3; kind++) {
            String crews = ",0,0;c20,30;c12,50;";
            PaidToGoAway poor = Check.laid("t" + kind + ",29" + crews);
            due("12: one fewer than its hunger", poor.hire(0, 0, 1), Check.NO);
            due("12: NO pays nothing", poor.town(0, SILVER), 29);
            due("12: NO costs nobody", poor.crew(0, 0) + poor.crew(1, 0), 32);
            PaidToGoAway just = Check.laid("t" + kind + ",30" + crews);
            due("12: just its hunger", just.hire(0, 0, 1), 8);
            due("12: it pays all of that", just.town(0, SILVER), 0);
            PaidToGoAway more = Check.laid("t" + kind + ",31" + crews);
            due("12: one more than its hunger", more.hire(0, 0, 1), 8);
            due("12: it pays no more", more.town(0, SILVER), 1);
            due("12: the hunger of b is not asked", more.crew(1, 2), 1);
        }
        for (int a = 1; a <= 60; a++) {
            for (int b = Math.max(1, a - 2); b <= Math.min(60, a + 2); b++) {
                PaidToGoAway x = Check.laid("t0,1,0,0;c1,60;c" + b + ",60;c" + a + ",1;");
                due("12: men of a", x.hire(0, 2, 1), Math.max(0, a - b));
                due("12: men of a stay so", x.crew(2, 0), Math.max(0, a - b));
                due("12: men of b", x.crew(1, 0), Math.max(0, b - a));
                due("12: a is gone", x.crew(2, 2), a <= b ? 1 : 0);
                due("12: b is gone", x.crew(1, 2), b <= a ? 1 : 0);
                due("12: another one is not", x.crew(0, 2), 0);
                due("29: gone", x.count(4), a == b ? 2 : 1);
            }
        }
    }

    /** "the TOWN's income is less by half of its HUNGER, cut (0 at least), its WALLS 2 more (20 at most)". */
    private static void land() {
        for (int hunger = 1; hunger <= 60; hunger++) {
            for (int income = 0; income <= 30; income++) {
                PaidToGoAway x = Check.laid("t0,9," + income + ",9;c9," + hunger + ";");
                int want = Math.max(0, income - hunger / 2);
                due("13: income " + income + ", hunger " + hunger, x.land(0, 0), want);
                due("13: it stays so", x.town(0, INCOME), want);
                due("13: 2 walls more", x.town(0, WALLS), 11);
                due("13: nothing is paid", x.town(0, SILVER), 9);
                due("13: gone", x.crew(0, 2), 1);
            }
        }
        for (int springs = 0; springs <= 11; springs++) {
            PaidToGoAway x = after("t0,99,0,9;c1,60;c1,60;w0,3;b1;", springs);
            due("13: walls ahead", x.town(0, WALLS), 9 + springs);
            x.land(0, 1);
            due("13: 2 more, 20 at most", x.town(0, WALLS), Math.min(20, 11 + springs));
            x.land(0, 0);
            due("13: 4 more, 20 at most", x.town(0, WALLS), Math.min(20, 13 + springs));
        }
    }

    /** "A BURNT TOWN can be RAISED by another one that has 20 SILVER: it pays that, that one has 10 then, no WALLS". */
    private static void raising() {
        for (int silver = 0; silver <= 99; silver++) {
            for (int kind = 0; kind <= 3; kind++) {
                PaidToGoAway x = after("t" + kind + "," + silver + ",0,9;t1,50,4,3;c45,60;w0,1;w1,3;b30;", 1);
                due("14: burnt", x.town(1, BURNT), 1);
                due("14: with walls", x.town(1, WALLS), 4);
                int want = silver >= 20 ? silver - 20 : Check.NO;
                due("14: raised with " + silver, x.raise(0, 1), want);
                due("14: it pays that", x.town(0, SILVER), silver >= 20 ? silver - 20 : silver);
                due("14: not burnt", x.town(1, BURNT), silver >= 20 ? 0 : 1);
                due("14: 10", x.town(1, SILVER), silver >= 20 ? 10 : 0);
                due("14: no walls", x.town(1, WALLS), silver >= 20 ? 0 : 4);
                due("14: its income stays", x.town(1, INCOME), 4);
                due("14: its way stays", x.town(1, WAY), 3);
                due("14: no crew was paid", x.town(0, PAID), 0);
            }
        }
    }

    private static int change(PaidToGoAway x, int i) {
        switch (i % 6) {
            case 0: return x.way(0, 1 + i % 2 * 2);
            case 1: return x.pass(1 + i % 3);
            case 2: return x.hire(1, 0, 1);
            case 3: return x.land(1, 2);
            case 4: return x.pass(10);
            default: return x.raise(1, 0);
        }
    }

    private static PaidToGoAway toChange() {
        return Check.laid("t0,60,9,0;t1,99,30,9;c40,15;c9,5;c9,7;w1,1;b2;");
    }

    /** "UNDONE is the latest .. (all that go by at one time are one; the last 8 can be)". */
    private static void undone() {
        for (int changes = 0; changes <= 6; changes++) {
            PaidToGoAway x = toChange();
            String[] was = new String[7];
            for (int i = 0; i < changes; i++) {
                was[i] = Check.brief(x);
                due("15: change " + i + " is none that is refused", change(x, i) >= 0 ? 1 : 0, 1);
                due("15: one more can be undone", x.count(7), i + 1);
            }
            for (int left = changes - 1; left >= 0; left--) {
                due("15: how many more", x.undo(), left);
                CHECK.same("15: as it was, " + left + " of " + changes, Check.brief(x), was[left]);
            }
            due("15: no more", x.undo(), Check.NO);
        }
        for (int changes = 7; changes <= 20; changes++) {
            PaidToGoAway x = Check.laid("t0,5,1,9;c1,1;w0,1;");
            for (int i = 0; i < changes; i++) {
                x.pass(1 + i % 2);
                due("29: 8 at most", x.count(7), Math.min(8, i + 1));
            }
            int springs = x.count(2);
            for (int i = 0; i < Math.min(8, changes); i++) {
                due("15: how many more of 8", x.undo(), Math.min(8, changes) - 1 - i);
                springs -= 1 + (changes - 1 - i) % 2;
                due("15: all that went by at one time", x.count(2), springs);
                due("15: and their income", x.town(0, SILVER), 5 + springs);
            }
            due("15: no ninth", x.undo(), Check.NO);
            due("15: NO changes nothing", x.count(2), springs);
        }
    }

    /** What is neither springs nor a change, hiring, land or raising is not undone. */
    private static void notUndone() {
        PaidToGoAway x = toChange();
        x.write('t');
        x.found(0, 1, 5);
        x.keep();
        x.wipe();
        x.fault();
        x.lay();
        x.forget();
        x.back();
        x.behind(5, 0, 0);
        x.springs(1, 5, 0);
        x.best(0, 4, 0);
        due("15: nothing of these", x.count(7), 0);
        due("15: nothing of these", x.undo(), Check.NO);
        x.pass(1);
        String stood = Check.brief(x);
        x.way(0, 4);
        x.pass(0);
        x.hire(0, 0, 0);
        x.land(0, 3);
        x.raise(0, 1);
        due("15: what was refused is none", x.count(7), 1);
        CHECK.same("15: what was refused is none", Check.brief(x), stood);
        due("15: the springs", x.undo(), 0);
        due("15: the springs", x.count(2), 0);
    }

    public static void main(String[] args) {
        oneToTenSprings();
        income();
        building();
        crewsThatCome();
        asking();
        paying();
        sendingOn();
        walls();
        losingMen();
        believing();
        growing();
        ninetyNineMen();
        ways();
        hiring();
        land();
        raising();
        undone();
        notUndone();
        CHECK.end();
    }
}
