/** Promises 10 to 15: springs that go by, ways, hiring, land, raising, undone. */
public final class SpringsTest {
    private static final Check CHECK = new Check("SpringsTest");

    private static void due(String what, long got, long want) {
        CHECK.due(what, got, want);
    }

    private static PaidToGoAway after(String text, int n) {
        PaidToGoAway x = Check.laid(text);
        due("10: pass, " + text, x.pass(n), n);
        return x;
    }

    /** Silver, walls, burnt and paid of a town. */
    private static void townIs(PaidToGoAway x, int t, int silver, int walls, int burnt, int paid) {
        String name = "10: town " + t + ", ";
        due(name + "silver", x.town(t, 1), silver);
        due(name + "walls", x.town(t, 3), walls);
        due(name + "burnt", x.town(t, 5), burnt);
        due(name + "paid", x.town(t, 6), paid);
    }

    private static void bounds() {
        PaidToGoAway x = new PaidToGoAway();
        due("10: 0", x.pass(0), Check.BAD);
        due("10: 11", x.pass(11), Check.BAD);
        for (int far : Check.FAR) {
            due("10: far", x.pass(far), Check.BAD);
        }
        due("10: nothing undone by BAD", x.count(7), 0);
        due("10: 10", x.pass(10), 10);
        due("10: 1", x.pass(1), 11);
        due("29: springs", x.count(2), 11);
        due("29: two can be undone", x.count(7), 2);
    }

    private static void income() {
        PaidToGoAway x = after("t0,98,30,9;t0,5,7,9;c1,1;w0,1;w1,1;", 10);
        townIs(x, 0, 398, 9, 0, 0);
        townIs(x, 1, 75, 9, 0, 0);
        x.pass(10);
        x.pass(10);
        townIs(x, 0, 998, 9, 0, 0);
        x.pass(1);
        townIs(x, 0, 999, 9, 0, 0);
        x.pass(1);
        townIs(x, 0, 999, 9, 0, 0);
        PaidToGoAway burnt = after("t0,5,7,0;c9,60;w0,1;", 1);
        townIs(burnt, 0, 0, 0, 1, 0);
        burnt.pass(2);
        townIs(burnt, 0, 0, 0, 1, 0);
    }

    private static void paying() {
        PaidToGoAway x = after("t0,10,5,0;t0,9,0,0;c10,15;", 1);
        townIs(x, 0, 0, 0, 0, 15);
        townIs(x, 1, 9, 0, 0, 0);
        due("10: a man more for 10", x.crew(0, 0), 11);
        // Less than what is asked: burnt, they have all of it and go home.
        x = after("t0,10,4,0;t0,9,0,0;c30,15;", 1);
        townIs(x, 0, 0, 0, 1, 0);
        townIs(x, 1, 9, 0, 0, 0);
        due("10: a man more for 10 of 14", x.crew(0, 0), 31);
        // Less than what is asked, but walls: two men lost, and on.
        x = after("t0,10,4,9;t0,25,0,0;c30,15;", 1);
        townIs(x, 0, 14, 9, 0, 0);
        townIs(x, 1, 10, 0, 0, 15);
        due("10: two lost, one won", x.crew(0, 0), 29);
    }

    private static void forgingAndHoly() {
        PaidToGoAway x = after("t2,5,0,0;c10,5;", 1);
        townIs(x, 0, 2, 0, 0, 5);
        due("8: twice what they have", x.believes(0, 0), 10);
        townIs(after("t2,4,0,0;c10,5;", 1), 0, 0, 0, 1, 0);
        townIs(after("t2,1,0,0;c10,1;", 1), 0, 0, 0, 0, 1);
        townIs(after("t2,9,0,0;c10,15;w0,2;", 1), 0, 6, 0, 0, 5);
        due("10: men for all that a forging one paid", after("t2,20,0,0;c10,20;", 1).crew(0, 0), 12);
        x = after("t3,10,0,0;c10,5;", 1);
        townIs(x, 0, 8, 0, 0, 2);
        due("8: of a holy one", x.believes(0, 0), 4);
        townIs(after("t3,0,0,0;c10,1;", 1), 0, 0, 0, 0, 0);
        townIs(after("t3,2,0,0;c10,15;w0,2;", 1), 0, 0, 0, 0, 2);
        townIs(after("t3,1,0,0;c10,15;w0,2;", 1), 0, 0, 0, 1, 0);
    }

    private static void refusing() {
        PaidToGoAway x = after("t0,50,0,2;t0,9,0,0;c10,5;w0,1;", 1);
        townIs(x, 0, 50, 2, 0, 0);
        townIs(x, 1, 4, 0, 0, 5);
        due("10: two lost", x.crew(0, 0), 8);
        x = after("t0,57,0,2;t0,9,0,0;c11,5;w0,1;", 1);
        townIs(x, 0, 0, 2, 1, 0);
        townIs(x, 1, 9, 0, 0, 0);
        due("10: 5 men for 57", x.crew(0, 0), 16);
        due("8: of a burnt one", x.believes(0, 0), 0);
        townIs(after("t1,50,0,2;c12,5;w0,1;", 1), 0, 50, 2, 0, 0);
        townIs(after("t1,50,0,2;c13,5;w0,1;", 1), 0, 0, 2, 1, 0);
        townIs(after("t2,50,0,2;c11,5;w0,1;", 1), 0, 0, 2, 1, 0);
        townIs(after("t3,50,0,2;c11,5;w0,1;", 1), 0, 0, 2, 1, 0);
        townIs(after("t0,50,0,0;c1,5;w0,1;", 1), 0, 0, 0, 1, 0);
        int[] left = {1, 1, 1, 2, 3};
        for (int men = 1; men <= 5; men++) {
            due("10: one is left", after("t0,0,0,9;c" + men + ",5;w0,1;", 1).crew(0, 0), left[men - 1]);
        }
    }

    private static void sendingOn() {
        PaidToGoAway x = after("t0,3,0,0;t0,29,0,0;t0,9,0,0;c10,11;w0,2;", 1);
        townIs(x, 0, 0, 0, 0, 3);
        townIs(x, 1, 18, 0, 0, 11);
        townIs(x, 2, 9, 0, 0, 0);
        due("8: a third, twice", x.believes(0, 0), 6);
        due("10: a man for 14", x.crew(0, 0), 11);
        townIs(after("t0,2,0,0;c10,11;w0,2;", 1), 0, 0, 0, 1, 0);
        x = after("t0,2,0,2;t0,9,0,0;c10,11;w0,2;w1,2;", 1);
        townIs(x, 0, 2, 2, 0, 0);
        townIs(x, 1, 6, 0, 0, 3);
        due("10: two lost", x.crew(0, 0), 8);
    }

    private static void building() {
        PaidToGoAway x = after("t0,10,5,0;c5,60;w0,3;", 1);
        townIs(x, 0, 5, 1, 0, 0);
        due("10: behind the new wall", x.crew(0, 0), 3);
        townIs(after("t0,10,5,0;c6,60;w0,3;", 1), 0, 0, 1, 1, 0);
        townIs(after("t0,2,2,0;c6,60;w0,3;b5;", 1), 0, 0, 0, 1, 0);
        townIs(after("t0,3,2,1;c6,60;w0,3;b5;", 1), 0, 0, 2, 0, 0);
        x = after("t0,50,0,9;c1,1;w0,3;b1;", 10);
        townIs(x, 0, 40, 19, 0, 0);
        x.pass(1);
        townIs(x, 0, 39, 20, 0, 0);
        x.pass(1);
        townIs(x, 0, 39, 20, 0, 0);
    }

    private static void spoilsOfOneSpring() {
        // 9 in each spring are never 10; 5 and 5 by two towns of one spring are.
        PaidToGoAway x = after("t0,99,0,0;c10,9;", 9);
        due("10: of this spring alone", x.crew(0, 0), 10);
        x = after("t0,5,0,0;t0,5,0,0;c10,15;w0,2;w1,2;", 1);
        due("10: of all in this spring", x.crew(0, 0), 11);
    }

    private static void crewsInOrder() {
        // The first burns the one town, the second comes to what is left.
        PaidToGoAway x = after("t0,30,0,1;t0,20,0,0;c10,40;c10,7;", 1);
        townIs(x, 0, 0, 1, 1, 0);
        townIs(x, 1, 13, 0, 0, 7);
        due("10: first crew", x.crew(0, 0), 13);
        due("10: second crew", x.crew(1, 0), 10);
        // Six that send on at 20 each: 12 men more, 99 at most.
        String text = "t0,99,30,0;t0,99,30,0;t0,99,30,0;t0,99,30,0;t0,99,30,0;t0,99,30,0;c60,60;"
            + "w0,2;w1,2;w2,2;w3,2;w4,2;w5,2;";
        x = after(text, 3);
        due("10: 12 men more three times", x.crew(0, 0), 96);
        x.pass(1);
        due("10: 99 at most", x.crew(0, 0), 99);
        due("10: nobody else", x.crew(1, 0), Check.BAD);
    }

    private static void way() {
        PaidToGoAway x = new PaidToGoAway();
        due("11: bad", x.way(4, 0), Check.BAD);
        due("11: bad", x.way(-1, 0), Check.BAD);
        due("11: bad", x.way(0, 4), Check.BAD);
        due("11: bad", x.way(0, -1), Check.BAD);
        for (int far : Check.FAR) {
            due("11: far", x.way(far, 0), Check.BAD);
            due("11: far", x.way(0, far), Check.BAD);
        }
        due("11: bad changes nothing", x.count(7), 0);
        due("11: it was 2", x.way(2, 3), 2);
        due("11: it is 3", x.town(2, 4), 3);
        due("11: it was 3", x.way(2, 0), 3);
        due("11: others stay", x.town(1, 4), 1);
        due("11: two can be undone", x.count(7), 2);
        PaidToGoAway burnt = after("t0,5,7,0;c9,60;w0,1;", 1);
        due("11: a burnt one's", burnt.way(0, 2), 1);
        due("11: a burnt one's", burnt.town(0, 4), 2);
    }

    private static void hire() {
        PaidToGoAway x = Check.laid("t2,25,0,0;t0,24,0,0;t0,5,9,0;c20,25;c12,7;c12,9;w2,1;");
        int[][] bad = {{3, 0, 1}, {-1, 0, 1}, {0, 3, 1}, {0, -1, 1}, {0, 0, 3}, {0, 0, -1}, {0, 1, 1}};
        for (int[] call : bad) {
            due("12: bad", x.hire(call[0], call[1], call[2]), Check.BAD);
        }
        for (int far : Check.FAR) {
            due("12: far", x.hire(far, 0, 1), Check.BAD);
            due("12: far", x.hire(0, far, 1), Check.BAD);
            due("12: far", x.hire(0, 0, far), Check.BAD);
        }
        due("12: not so much", x.hire(1, 0, 1), Check.NO);
        due("12: bad ahead of no", x.hire(1, 0, 0), Check.BAD);
        due("12: nothing changed", x.count(7), 0);
        due("12: men of a", x.hire(0, 0, 1), 8);
        townIs(x, 0, 0, 0, 0, 0);
        due("12: all of b fell", x.crew(1, 0), 0);
        due("12: b gone", x.crew(1, 2), 1);
        due("12: a is not", x.crew(0, 2), 0);
        due("12: gone", x.hire(1, 1, 0), Check.NO);
        due("12: gone", x.hire(1, 2, 1), Check.NO);
        due("12: fewer hired", x.hire(1, 2, 0), 4);
        townIs(x, 1, 15, 0, 0, 0);
        due("12: a gone", x.crew(0, 2), 1);
        due("29: gone", x.count(4), 2);
        x.pass(1);
        townIs(x, 0, 0, 0, 1, 0);
        due("12: burnt", x.hire(0, 2, 1), Check.NO);
        PaidToGoAway one = Check.laid("t0,9,0,0;c8,9;c7,9;");
        due("12: one man is left", one.hire(0, 0, 1), 1);
        due("12: and is not gone", one.crew(0, 2), 0);
        PaidToGoAway y = Check.laid("t0,9,0,0;c8,9;c8,9;");
        due("12: as many", y.hire(0, 0, 1), 0);
        due("12: both gone", y.count(4), 2);
        y.pass(1);
        townIs(y, 0, 0, 0, 0, 0);
    }

    private static void land() {
        PaidToGoAway x = Check.laid("t0,9,8,3;t0,9,2,9;t0,0,9,0;c20,15;c9,5;c9,7;w2,1;");
        int[][] bad = {{3, 0}, {-1, 0}, {0, 3}, {0, -1}};
        for (int[] call : bad) {
            due("13: bad", x.land(call[0], call[1]), Check.BAD);
        }
        for (int far : Check.FAR) {
            due("13: far", x.land(far, 0), Check.BAD);
            due("13: far", x.land(0, far), Check.BAD);
        }
        due("13: land", x.land(0, 0), 1);
        due("13: walls", x.town(0, 3), 5);
        due("13: silver", x.town(0, 1), 9);
        due("13: gone", x.crew(0, 2), 1);
        due("13: hunger stays", x.crew(0, 1), 15);
        due("13: gone", x.land(1, 0), Check.NO);
        due("13: bad ahead of gone", x.land(4, 0), Check.BAD);
        due("13: 0 at least", x.land(1, 1), 0);
        due("13: income", x.town(1, 2), 0);
        due("13: hunger beyond its income", Check.laid("t0,9,2,0;c9,60;").land(0, 0), 0);
        x.way(0, 1);
        x.way(1, 1);
        x.pass(1);
        due("13: burnt", x.land(2, 2), Check.NO);
        due("13: it went by", x.count(7), 5);
        PaidToGoAway y = Check.laid("t0,50,0,9;c1,1;c1,9;w0,3;b1;");
        y.pass(10);
        due("13: 19 walls", y.town(0, 3), 19);
        y.land(0, 0);
        due("13: 20 at most", y.town(0, 3), 20);
        y.land(0, 1);
        due("13: 20 at most", y.town(0, 3), 20);
    }

    private static void raise() {
        PaidToGoAway x = Check.laid("t0,22,0,9;t0,19,0,9;t2,9,9,1;c10,40;w0,1;w1,1;w2,2;");
        int[][] bad = {{3, 0}, {-1, 0}, {0, 3}, {0, -1}, {1, 1}};
        for (int[] call : bad) {
            due("14: bad", x.raise(call[0], call[1]), Check.BAD);
        }
        for (int far : Check.FAR) {
            due("14: far", x.raise(far, 0), Check.BAD);
            due("14: far", x.raise(0, far), Check.BAD);
        }
        due("14: not burnt", x.raise(0, 2), Check.NO);
        x = Check.laid("t0,22,0,9;t0,19,0,9;t2,9,9,1;c40,40;w0,1;w1,1;w2,1;");
        x.pass(1);
        townIs(x, 2, 0, 1, 1, 0);
        due("29: burnt", x.count(3), 1);
        due("14: not so much", x.raise(1, 2), Check.NO);
        due("14: the burnt one itself", x.raise(2, 0), Check.NO);
        due("14: bad ahead of no", x.raise(2, 2), Check.BAD);
        due("14: raise", x.raise(0, 2), 2);
        townIs(x, 2, 10, 0, 0, 0);
        due("14: its income", x.town(2, 2), 9);
        due("14: its way", x.town(2, 4), 1);
        due("14: its kind", x.town(2, 0), 2);
        due("29: none burnt", x.count(3), 0);
        due("14: not burnt now", x.raise(0, 2), Check.NO);
        x.pass(1);
        townIs(x, 2, 0, 0, 1, 0);
        PaidToGoAway y = after("t0,20,0,9;t2,9,9,1;c40,40;w0,1;w1,1;", 1);
        due("14: just 20", y.raise(0, 1), 0);
    }

    private static void undo() {
        PaidToGoAway x = Check.laid("t0,60,9,9;t0,60,2,0;c40,15;c9,5;c9,7;w0,1;w1,1;b2;");
        due("15: nothing", x.undo(), Check.NO);
        String[] was = new String[20];
        int done = 0;
        was[done++] = Check.brief(x);
        x.pass(3);
        was[done++] = Check.brief(x);
        x.way(0, 3);
        was[done++] = Check.brief(x);
        x.hire(0, 0, 1);
        was[done++] = Check.brief(x);
        x.raise(0, 1);
        was[done++] = Check.brief(x);
        x.land(1, 2);
        was[done++] = Check.brief(x);
        due("15: five", x.count(7), 5);
        for (int left = 4; left >= 0; left--) {
            CHECK.same("15: as it stood", Check.brief(x), was[left + 1]);
            due("15: how many more", x.undo(), left);
        }
        CHECK.same("15: as at first", Check.brief(x), was[0]);
        due("15: no more", x.undo(), Check.NO);
    }

    private static void eightAtMost() {
        PaidToGoAway x = Check.laid("t0,60,9,9;t0,60,2,0;c40,15;c9,5;c9,7;w0,1;w1,1;b2;");
        String[] was = new String[12];
        for (int i = 0; i < 12; i++) {
            was[i] = Check.brief(x);
            x.pass(1 + i % 3);
            due("15: eight at most", x.count(7), Math.min(8, i + 1));
        }
        for (int left = 7; left >= 0; left--) {
            due("15: of the last eight", x.undo(), left);
            CHECK.same("15: as it stood", Check.brief(x), was[left + 4]);
        }
        due("15: no more than eight", x.undo(), Check.NO);
        due("15: springs", x.count(2), 1 + 2 + 3 + 1);
    }

    private static void undoOfOneKind() {
        PaidToGoAway x = Check.laid("t0,60,9,9;c50,15;");
        x.way(0, 0);
        due("15: a way that was so is a change too", x.count(7), 1);
        x.pass(2);
        x.undo();
        due("15: springs are not gone by", x.count(2), 0);
        x.found(0, 1, 5);
        x.keep();
        x.write('a');
        due("15: these are not undone", x.undo(), 0);
        due("15: found stays", x.count(6), 1);
        due("15: kept stays", x.count(8), 1);
        due("15: the text stays", x.count(9), 17 + 1);
    }

    public static void main(String[] args) {
        bounds();
        income();
        paying();
        forgingAndHoly();
        refusing();
        sendingOn();
        building();
        spoilsOfOneSpring();
        crewsInOrder();
        way();
        hire();
        land();
        raise();
        undo();
        eightAtMost();
        undoOfOneKind();
        CHECK.end();
    }
}
