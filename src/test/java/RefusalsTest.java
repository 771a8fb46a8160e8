import java.util.function.ToIntFunction;

/** "Of several the first in this order (BAD, NO, NONE, FULL), whatever the order at a call; nothing changes then." */
public final class RefusalsTest {
    private static final Check CHECK = new Check("RefusalsTest");
    private static final int[] NO_TOWN = {-1, 3, 6, Integer.MIN_VALUE, Integer.MAX_VALUE};
    private static final int[] NO_CREW = {-1, 3, Integer.MIN_VALUE, Integer.MAX_VALUE};

    /** Town 0 is burnt, town 1 has 19 and town 2 much; crew 0 is gone; all is full but THE TEXT, which has a fault. */
    private static PaidToGoAway full() {
        PaidToGoAway x = Check.laid("t0,9,1,0;t1,19,0,9;t2,95,0,9;c9,30;c14,22;c16,20;w0,1;w1,1;w2,1;");
        for (int i = 0; i < 6; i++) {
            x.found(i % 3, 1 + i, 9);
        }
        x.pass(1);
        x.keep();
        x.land(2, 0);
        x.way(2, 3);
        x.keep();
        for (int i = 0; i < 9; i++) {
            x.way(1, i % 2 == 0 ? 3 : 1);
        }
        x.way(1, 1);
        x.write('x');
        return x;
    }

    /** Town 0 is burnt, the others have no silver; nothing is kept, found or to be undone but one spring. */
    private static PaidToGoAway poor() {
        PaidToGoAway x = Check.laid("t0,9,1,0;t1,0,0,9;t2,0,0,9;c9,30;c14,22;c16,20;w0,1;w1,1;w2,1;");
        x.pass(1);
        return x;
    }

    /** All that can be told of it, what is kept and what can be undone too: it is no more what it was then. */
    private static String whole(PaidToGoAway x) {
        StringBuilder all = new StringBuilder();
        for (int t = 0; t < 3; t++) {
            all.append(x.hoard(t, 0)).append(' ').append(x.hoard(t, 1)).append(' ').append(x.behind(9, t, 0)).append('\n');
        }
        all.append(x.fault()).append('\n').append(Check.state(x));
        while (x.undo() >= 0) {
            all.append(Check.brief(x));
        }
        while (x.back() >= 0) {
            all.append(Check.brief(x));
        }
        return all.toString();
    }

    private static final String FULL_WHOLE = whole(full());
    private static final String POOR_WHOLE = whole(poor());

    private static void inFull(String what, int want, ToIntFunction<PaidToGoAway> call) {
        PaidToGoAway x = full();
        CHECK.due(what, call.applyAsInt(x), want);
        CHECK.same(what + ": nothing changes", whole(x), FULL_WHOLE);
    }

    private static void inPoor(String what, int want, ToIntFunction<PaidToGoAway> call) {
        PaidToGoAway x = poor();
        CHECK.due(what, call.applyAsInt(x), want);
        CHECK.same(what + ": nothing changes", whole(x), POOR_WHOLE);
    }

    private static void standing() {
        PaidToGoAway x = full();
        int[] full = {3, 3, 1, 1, 1, 114, 6, 8, 2, 65};
        int[] poor = {3, 3, 1, 1, 0, 0, 0, 1, 0, 62};
        PaidToGoAway y = poor();
        for (int what = 0; what <= 9; what++) {
            CHECK.due("29: full, " + what, x.count(what), full[what]);
            CHECK.due("29: poor, " + what, y.count(what), poor[what]);
        }
    }

    private static void texts() {
        PaidToGoAway x = full();
        Check.write(x, " ".repeat(200 - 65));
        String stood = Check.state(x);
        CHECK.due("2: FULL", x.write('t'), Check.FULL);
        for (int letter : new int[] {31, 127, -1, 0, 256 + 't', Integer.MIN_VALUE, Integer.MAX_VALUE}) {
            inFull("2: BAD " + letter, Check.BAD, y -> y.write(letter));
            CHECK.due("2: BAD ahead of FULL, " + letter, x.write(letter), Check.BAD);
        }
        CHECK.same("2: nothing changes", Check.state(x), stood);
        inFull("5: a fault", Check.NO, y -> y.lay());
    }

    private static void looking() {
        for (int t : NO_TOWN) {
            inFull("6: BAD", Check.BAD, x -> x.town(t, 0));
            inFull("8: BAD", Check.BAD, x -> x.believes(1, t));
            inFull("9: BAD", Check.BAD, x -> x.asks(1, t));
            inFull("9: BAD ahead of NO (gone)", Check.BAD, x -> x.asks(0, t));
        }
        for (int c : NO_CREW) {
            inFull("7: BAD", Check.BAD, x -> x.crew(c, 0));
            inFull("8: BAD", Check.BAD, x -> x.believes(c, 1));
            inFull("9: BAD", Check.BAD, x -> x.asks(c, 1));
            inFull("9: BAD ahead of NO (burnt)", Check.BAD, x -> x.asks(c, 0));
        }
        inFull("9: NO: gone", Check.NO, x -> x.asks(0, 1));
        inFull("9: NO: burnt", Check.NO, x -> x.asks(1, 0));
        inFull("9: NO: gone and burnt", Check.NO, x -> x.asks(0, 0));
        inFull("9: neither", 22, x -> x.asks(1, 1));
    }

    private static void changes() {
        for (int t : NO_TOWN) {
            inFull("11: BAD", Check.BAD, x -> x.way(t, 0));
            inFull("12: BAD", Check.BAD, x -> x.hire(t, 1, 2));
            inFull("12: BAD ahead of NO (gone)", Check.BAD, x -> x.hire(t, 0, 1));
            inFull("13: BAD", Check.BAD, x -> x.land(t, 1));
            inFull("13: BAD ahead of NO (gone)", Check.BAD, x -> x.land(t, 0));
            inFull("14: BAD", Check.BAD, x -> x.raise(t, 0));
            inFull("14: BAD ahead of NO (not burnt)", Check.BAD, x -> x.raise(t, 1));
            inFull("14: BAD", Check.BAD, x -> x.raise(2, t));
            inFull("14: BAD ahead of NO (burnt)", Check.BAD, x -> x.raise(0, t));
            inFull("14: BAD ahead of NO (not so much)", Check.BAD, x -> x.raise(1, t));
        }
        for (int c : NO_CREW) {
            inFull("12: BAD", Check.BAD, x -> x.hire(2, c, 1));
            inFull("12: BAD", Check.BAD, x -> x.hire(2, 1, c));
            inFull("12: BAD ahead of NO (burnt)", Check.BAD, x -> x.hire(0, c, 1));
            inFull("12: BAD ahead of NO (gone)", Check.BAD, x -> x.hire(2, 0, c));
            inFull("12: BAD ahead of NO (not so much)", Check.BAD, x -> x.hire(1, 1, c));
            inFull("13: BAD", Check.BAD, x -> x.land(2, c));
            inFull("13: BAD ahead of NO (burnt)", Check.BAD, x -> x.land(0, c));
        }
        for (int k : new int[] {-1, 4, Integer.MIN_VALUE, Integer.MAX_VALUE}) {
            inFull("11: BAD", Check.BAD, x -> x.way(2, k));
        }
        for (int n : new int[] {-1, 0, 11, Integer.MIN_VALUE, Integer.MAX_VALUE}) {
            inFull("10: BAD", Check.BAD, x -> x.pass(n));
        }
    }

    private static void alikeAndNot() {
        inFull("12: alike", Check.BAD, x -> x.hire(2, 1, 1));
        inFull("12: alike, ahead of NO (burnt)", Check.BAD, x -> x.hire(0, 1, 1));
        inFull("12: alike, ahead of NO (gone)", Check.BAD, x -> x.hire(2, 0, 0));
        inFull("12: alike, ahead of NO (not so much)", Check.BAD, x -> x.hire(1, 1, 1));
        inFull("12: NO: burnt", Check.NO, x -> x.hire(0, 1, 2));
        inFull("12: NO: a gone", Check.NO, x -> x.hire(2, 0, 1));
        inFull("12: NO: b gone", Check.NO, x -> x.hire(2, 1, 0));
        inFull("12: NO: not so much (19 of 20)", Check.NO, x -> x.hire(1, 2, 1));
        inFull("13: NO: burnt", Check.NO, x -> x.land(0, 1));
        inFull("13: NO: gone", Check.NO, x -> x.land(2, 0));
        inFull("13: NO: burnt and gone", Check.NO, x -> x.land(0, 0));
        inFull("14: alike", Check.BAD, x -> x.raise(2, 2));
        inFull("14: alike, ahead of NO (burnt)", Check.BAD, x -> x.raise(0, 0));
        inFull("14: alike, ahead of NO (not so much)", Check.BAD, x -> x.raise(1, 1));
        inFull("14: NO: t burnt", Check.NO, x -> x.raise(0, 2));
        inFull("14: NO: u not burnt", Check.NO, x -> x.raise(2, 1));
        inFull("14: NO: not so much (19 of 20)", Check.NO, x -> x.raise(1, 0));
        inPoor("14: NO: not so much (0 of 20)", Check.NO, x -> x.raise(1, 0));
    }

    private static void coming() {
        for (int t : NO_TOWN) {
            inFull("16: BAD", Check.BAD, x -> x.behind(1, t, 0));
            inFull("18: BAD", Check.BAD, x -> x.best(t, 1, 0));
            inFull("19: BAD", Check.BAD, x -> x.rests(t, 1, 0));
            inFull("19: BAD", Check.BAD, x -> x.rests(1, t, 0));
            inFull("19: BAD ahead of NO", Check.BAD, x -> x.rests(t, 0, 0));
            inFull("19: BAD ahead of NO", Check.BAD, x -> x.rests(0, t, 1));
            inFull("20: BAD", Check.BAD, x -> x.walled(t, 1));
        }
        inFull("17: BAD", Check.BAD, x -> x.fire(2));
        inPoor("17: NONE", Check.NONE, x -> x.fire(0));
        inPoor("17: NONE", Check.NONE, x -> x.fire(1));
        inPoor("17: BAD ahead of NONE", Check.BAD, x -> x.fire(2));
        inPoor("17: BAD ahead of NONE", Check.BAD, x -> x.fire(-1));
        inFull("18: NO", Check.NO, x -> x.best(0, 4, 0));
        inFull("18: BAD ahead of NO (n)", Check.BAD, x -> x.best(0, 0, 0));
        inFull("18: BAD ahead of NO (n)", Check.BAD, x -> x.best(0, 5, 0));
        inFull("18: BAD ahead of NO (k)", Check.BAD, x -> x.best(0, 4, 5));
        inFull("18: BAD ahead of NO (k)", Check.BAD, x -> x.best(0, 4, -2));
        inFull("19: NO: the one burnt", Check.NO, x -> x.rests(0, 1, 0));
        inFull("19: NO: the other burnt", Check.NO, x -> x.rests(1, 0, 1));
        inFull("19: alike, ahead of NO", Check.BAD, x -> x.rests(0, 0, 0));
        inFull("19: BAD ahead of NO (what)", Check.BAD, x -> x.rests(0, 1, 2));
        inFull("19: BAD ahead of NO (what)", Check.BAD, x -> x.rests(1, 0, -1));
        inFull("20: NO", Check.NO, x -> x.walled(0, 20));
        inFull("20: BAD ahead of NO", Check.BAD, x -> x.walled(0, 21));
        inFull("20: BAD ahead of NO", Check.BAD, x -> x.walled(0, 0));
    }

    private static void shares() {
        for (int t : NO_TOWN) {
            inFull("21: BAD", Check.BAD, x -> x.together(t, 0));
            inPoor("21: BAD ahead of NONE", Check.BAD, x -> x.together(t, 0));
            inFull("22: BAD ahead of FULL (t)", Check.BAD, x -> x.found(t, 1, 1));
            inFull("24: BAD", Check.BAD, x -> x.hoard(t, 0));
            inFull("24: BAD ahead of NONE", Check.BAD, x -> x.hoard(t, 1));
            inFull("25: BAD", Check.BAD, x -> x.whose(t, 1, 0));
        }
        inFull("21: NONE: it is burnt", Check.NONE, x -> x.together(0, 0));
        inFull("21: BAD ahead of NONE (burnt)", Check.BAD, x -> x.together(0, 2));
        inPoor("21: NONE: they have none", Check.NONE, x -> x.together(1, 1));
        inPoor("21: BAD ahead of NONE (none)", Check.BAD, x -> x.together(1, -1));
        inFull("22: FULL", Check.FULL, x -> x.found(0, 1, 9));
        inFull("22: BAD ahead of FULL (spring)", Check.BAD, x -> x.found(0, 0, 9));
        inFull("22: BAD ahead of FULL (spring)", Check.BAD, x -> x.found(0, 21, 9));
        inFull("22: BAD ahead of FULL (silver)", Check.BAD, x -> x.found(0, 1, -1));
        inFull("22: BAD ahead of FULL (silver)", Check.BAD, x -> x.found(0, 1, 1000));
        inFull("24: NONE", Check.NONE, x -> x.hoard(0, 1));
        inFull("24: none of them, but how many", 0, x -> x.hoard(0, 0));
        inFull("24: BAD ahead of NONE (what)", Check.BAD, x -> x.hoard(0, 2));
        inFull("25: BAD", Check.BAD, x -> x.whose(0, 21, 0));
        inFull("25: BAD", Check.BAD, x -> x.whose(0, 1, 10000));
        inFull("26: BAD", Check.BAD, x -> x.springs(10000, 1, 0));
        inFull("26: BAD", Check.BAD, x -> x.springs(0, 31, 0));
        inFull("26: BAD", Check.BAD, x -> x.springs(0, 1, 2));
        inFull("27: FULL", Check.FULL, x -> x.keep());
        inPoor("28: NO", Check.NO, x -> x.back());
        inFull("29: BAD", Check.BAD, x -> x.count(10));
        inFull("29: BAD", Check.BAD, x -> x.count(-1));
        PaidToGoAway fresh = new PaidToGoAway();
        CHECK.due("15: NO", fresh.undo(), Check.NO);
        CHECK.due("23: nothing was found", fresh.forget(), 0);
        CHECK.same("15: NO changes nothing", Check.state(fresh), Check.state(new PaidToGoAway()));
    }

    /** What only looks changes nothing either. */
    private static void whatOnlyLooks() {
        inFull("16: looking", 0, x -> Math.min(0, x.behind(30, 2, 0)));
        inFull("18: looking", 0, x -> Math.min(0, x.best(2, 4, 0)));
        inFull("19: looking", 0, x -> Math.min(0, x.rests(1, 2, 0)));
        inFull("20: looking", 0, x -> Math.min(0, x.walled(2, 20)));
        inFull("21: looking", 0, x -> Math.min(0, x.together(2, 0)));
        inFull("24: looking", 0, x -> Math.min(0, x.hoard(2, 0)));
        inFull("25: looking", 0, x -> Math.min(0, x.whose(2, 20, 0)));
        inFull("26: looking", 0, x -> Math.min(0, x.springs(9999, 30, 0)));
        inFull("4: looking", 0, x -> Math.min(0, x.fault()));
        inFull("6: looking", 0, x -> Math.min(0, x.town(2, 1)));
        inFull("7: looking", 0, x -> Math.min(0, x.crew(2, 1)));
        inFull("8: looking", 0, x -> Math.min(0, x.believes(2, 1)));
        inPoor("17: looking", Check.NONE, x -> x.fire(1));
        inFull("29: looking", 0, x -> Math.min(0, x.count(5)));
    }

    public static void main(String[] args) {
        standing();
        texts();
        looking();
        changes();
        alikeAndNot();
        coming();
        shares();
        whatOnlyLooks();
        CHECK.end();
    }
}
