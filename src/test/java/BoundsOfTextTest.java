/** Promises 1 to 9, and section 1 of the document: each sentence that names a bound, on both sides of it. */
public final class BoundsOfTextTest {
    private static final Check CHECK = new Check("BoundsOfTextTest");
    private static final String TOWN = "t0,1,1,1;";
    private static final String CREW = "c1,1;";

    private static void due(String what, long got, long want) {
        CHECK.due(what, got, want);
    }

    private static void faultIs(String sentence, String text, int want) {
        due(sentence + " [" + text + "]", Check.written(text).fault(), want);
    }

    /** "at first t0,60,8,2;.. ": a new object stands as that text laid, but for THE TEXT, that is empty. */
    private static void aNewObjectIsThatText() {
        PaidToGoAway fresh = new PaidToGoAway();
        PaidToGoAway laid = Check.laid("t0,60,8,2;t1,40,10,4;t2,30,5,0;t0,80,12,1;c20,15;c12,25;w1,1;w2,2;w3,3;");
        laid.wipe();
        CHECK.same("1: at first", Check.state(fresh), Check.state(laid));
        due("1: THE TEXT is empty, without fault", fresh.fault(), Check.NONE);
        due("1: THE TEXT is empty, not to be laid", fresh.lay(), Check.NO);
        due("1: SPRING 0 is the first one", fresh.count(2), 0);
        for (int n = 0; n <= 30; n += 2) {
            for (int t = 0; t < 4; t++) {
                for (int what = 0; what <= 3; what++) {
                    due("1: behind " + n, fresh.behind(n, t, what), laid.behind(n, t, what));
                }
            }
        }
        for (int t = 0; t < 4; t++) {
            fresh.found(t, 3, laid.behind(3, t, 0));
            due("1: it is laid, for a hoard too", fresh.hoard(t, 0) > 0 ? 1 : 0, 1);
            due("1: it is laid, for whose too", fresh.whose(t, 20, laid.behind(20, t, 3)) >= 0 ? 1 : 0, 1);
        }
        due("1: crew 0 alone", fresh.whose(0, 1, 15), 1);
        due("1: crew 1 alone", fresh.whose(0, 1, 25), 2);
    }

    /** "A letter (32 to 126, as in ASCII)". */
    private static void lettersFrom32To126() {
        PaidToGoAway x = new PaidToGoAway();
        for (int letter = -200; letter < 32; letter++) {
            due("2: letter " + letter, x.write(letter), Check.BAD);
        }
        due("2: BAD writes nothing", x.wipe(), 0);
        for (int letter = 32; letter <= 126; letter++) {
            due("2: letter " + letter, x.write(letter), letter - 31);
        }
        for (int letter = 127; letter < 300; letter++) {
            due("2: letter " + letter, x.write(letter), Check.BAD);
        }
        due("2: BAD writes nothing", x.wipe(), 95);
    }

    private static String many(String item, int n) {
        return item.repeat(n);
    }

    /** "A TEXT is letters (200 at most)". */
    private static void twoHundredLetters() {
        String full = TOWN + CREW + many("b1;", 2) + many("w0,1;", 35) + "w0,3;";
        due("2: the text's own length", full.length(), 200);
        PaidToGoAway x = Check.written(full.substring(0, 199));
        due("2: 199 letters", x.count(9), 199);
        due("4: the last ; is wanting", x.fault(), 195);
        due("2: the 200th letter", x.write(';'), 200);
        due("2: the 201st letter", x.write(';'), Check.FULL);
        due("2: the 201st letter, no letter at all", x.write(127), Check.BAD);
        due("2: no letter is lost", x.count(9), 200);
        due("4: 200 letters without fault", x.fault(), Check.NONE);
        due("5: 200 letters are laid", x.lay(), 1);
        due("5: the last item of 200 letters counts", x.town(0, 4), 3);
        due("3: 200 letters wiped", x.wipe(), 200);
        due("2: room again", x.write('t'), 1);
        PaidToGoAway y = Check.written(TOWN + CREW + many("b1;", 4) + many("w0,1;", 34) + "w0,3");
        due("4: an item that 200 letters cut", y.count(9), 200);
        due("4: an item that 200 letters cut", y.fault(), 196);
        due("2: its ; finds no room", y.write(';'), Check.FULL);
        due("5: it is not laid", y.lay(), Check.NO);
    }

    /** "numbers (one or two figures)": none, one, two and three, at each number of each item. */
    private static void figures() {
        String[][] items = {{"t", "0", "1", "1", "1"}, {"c", "1", "1"}, {"w", "0", "1"}, {"b", "1"}};
        for (String[] item : items) {
            for (int place = 1; place < item.length; place++) {
                String was = item[place];
                String[] forms = {"", was, "0" + was, "00" + was};
                for (int count = 0; count < forms.length; count++) {
                    item[place] = forms[count];
                    faultIs("4: one or two figures", TOWN + joined(item), count == 1 || count == 2 ? Check.NONE : 9);
                }
                item[place] = was;
            }
        }
    }

    private static String joined(String[] item) {
        StringBuilder all = new StringBuilder(item[0]);
        for (int i = 1; i < item.length; i++) {
            all.append(item[i]).append(i == item.length - 1 ? ';' : ',');
        }
        return all.toString();
    }

    /** "S (0 to 99)", "I (0 to 30)" and all the others: each number of each item from 0 to 99. */
    private static void ranges() {
        String[][] items = {{"t", "0", "1", "1", "1"}, {"c", "1", "1"}, {"w", "0", "1"}, {"b", "1"}};
        int[][] lowest = {{0, 0, 0, 0}, {1, 1}, {0, 0}, {1}};
        int[][] highest = {{3, 99, 30, 9}, {60, 60}, {1, 3}, {30}};
        for (int i = 0; i < items.length; i++) {
            for (int place = 1; place < items[i].length; place++) {
                String was = items[i][place];
                for (int number = 0; number <= 99; number++) {
                    items[i][place] = "" + number;
                    boolean good = number >= lowest[i][place - 1] && number <= highest[i][place - 1];
                    faultIs("4: range", TOWN + TOWN + joined(items[i]), good ? Check.NONE : 18);
                }
                items[i][place] = was;
            }
        }
        PaidToGoAway low = Check.laid("t0,0,0,0;c1,1;");
        PaidToGoAway high = Check.laid("t3,99,30,9;c60,60;");
        int[][] want = {{0, 0, 0, 0}, {3, 99, 30, 9}};
        for (int what = 0; what <= 3; what++) {
            due("6: the lowest numbers", low.town(0, what), want[0][what]);
            due("6: the highest numbers", high.town(0, what), want[1][what]);
        }
        for (int what = 0; what <= 1; what++) {
            due("7: the lowest numbers", low.crew(0, what), 1);
            due("7: the highest numbers", high.crew(0, what), 60);
        }
    }

    /** "ITEMS .., each a letter": t, c, w and b, and no other of the 95. */
    private static void lettersOfItems() {
        for (char letter = 32; letter <= 126; letter++) {
            faultIs("4: four numbers", TOWN + letter + "0,1,1,1;", letter == 't' ? Check.NONE : 9);
            faultIs("4: three numbers", TOWN + letter + "0,1,1;", 9);
            faultIs("4: two numbers", TOWN + letter + "0,1;", letter == 'w' ? Check.NONE : 9);
            faultIs("4: two numbers", TOWN + letter + "1,1;", letter == 'c' ? Check.NONE : 9);
            faultIs("4: one number", TOWN + letter + "1;", letter == 'b' ? Check.NONE : 9);
            faultIs("4: no number", TOWN + letter + ";", 9);
            faultIs("4: a letter alone", TOWN + letter, 9);
        }
    }

    /** "parted by , and a ; behind the last one": each other letter there is a fault of that item. */
    private static void partings() {
        String[] items = {TOWN, CREW, "w0,1;", "b1;"};
        for (String item : items) {
            for (int place = 1; place < item.length(); place++) {
                for (char letter = 32; letter <= 126; letter++) {
                    boolean figure = item.charAt(place) >= '0' && item.charAt(place) <= '9';
                    if (!figure && letter != item.charAt(place)) {
                        String spoilt = item.substring(0, place) + letter + item.substring(place + 1);
                        faultIs("4: parted", TOWN + spoilt, 9);
                    }
                    if (figure && (letter < '0' || letter > '9')) {
                        String spoilt = item.substring(0, place) + letter + item.substring(place + 1);
                        faultIs("4: a figure", TOWN + spoilt, 9);
                    }
                }
                faultIs("4: an item cut short", TOWN + item.substring(0, place), 9);
            }
            faultIs("4: a whole item", TOWN + item, Check.NONE);
        }
    }

    /** "6 at most, 0, 1, .. up the river", "3 at most". */
    private static void sixTownsAndThreeCrews() {
        for (int towns = 1; towns <= 7; towns++) {
            PaidToGoAway x = Check.written(many(TOWN, towns) + CREW);
            due("4: 6 towns at most", x.fault(), towns <= 6 ? Check.NONE : 54);
            due("5: 6 towns at most", x.lay(), towns <= 6 ? towns : Check.NO);
            due("29: 6 towns at most", x.count(0), towns <= 6 ? towns : 4);
        }
        for (int crews = 1; crews <= 4; crews++) {
            PaidToGoAway x = Check.written(TOWN + many(CREW, crews));
            due("4: 3 crews at most", x.fault(), crews <= 3 ? Check.NONE : 24);
            due("5: 3 crews at most", x.lay(), crews <= 3 ? 1 : Check.NO);
            due("29: 3 crews at most", x.count(1), crews <= 3 ? crews : 2);
        }
        PaidToGoAway all = Check.laid("t0,1,0,0;c1,11;t1,2,0,0;t2,3,0,0;c1,12;t3,4,0,0;t0,5,0,0;t1,6,0,0;c1,13;");
        for (int t = 0; t < 6; t++) {
            due("6: 0, 1, .. up the river", all.town(t, 1), t + 1);
        }
        for (int c = 0; c < 3; c++) {
            due("7: 0, 1, ..", all.crew(c, 1), 11 + c);
        }
    }

    /** "TOWN T (told ahead) goes WAY K": of each number of towns the last one and the one behind it. */
    private static void toldAhead() {
        for (int towns = 0; towns <= 6; towns++) {
            for (int t = 0; t <= 7; t++) {
                String text = many(TOWN, towns) + "w" + t + ",1;";
                faultIs("4: told ahead", text, t < towns ? Check.NONE : 9 * towns);
                if (towns < 6) {
                    faultIs("4: told behind it", text + many(TOWN, 6 - towns), t < towns ? Check.NONE : 9 * towns);
                }
            }
        }
    }

    /** "0 without; of several such the last one counts", "10 without; of several such the last one counts". */
    private static void theLastOneCounts() {
        for (int first = 0; first <= 3; first++) {
            for (int last = 0; last <= 3; last++) {
                String text = TOWN + TOWN + TOWN + CREW + "w1," + first + ";w2,3;w1," + last + ";";
                PaidToGoAway x = Check.laid(text);
                due("6: way 0 without", x.town(0, 4), 0);
                due("6: the last w counts", x.town(1, 4), last);
                due("6: one w alone", x.town(2, 4), 3);
            }
        }
        for (int cost = 1; cost <= 30; cost++) {
            String text = "t0,50,0,9;c1,1;w0,3;b" + (31 - cost) + ";b" + cost + ";";
            due("10: the last b counts", Check.laid(text).behind(1, 0, 0), 50 - cost);
            due("10: one b alone", Check.laid("b" + cost + ";t0,50,0,9;c1,1;w0,3;").behind(1, 0, 0), 50 - cost);
        }
        due("10: 10 without", Check.laid("t0,50,0,9;c1,1;w0,3;").behind(1, 0, 0), 40);
        PaidToGoAway x = Check.laid("b7;t0,50,0,9;c1,1;w0,3;");
        x.wipe();
        Check.write(x, "t0,50,0,9;c1,1;w0,3;");
        x.lay();
        due("10: 10 without, whatever was laid before", x.behind(1, 0, 0), 40);
        x.wipe();
        Check.write(x, "t0,50,0,9;c1,1;");
        x.lay();
        due("6: way 0 without, whatever was laid before", x.town(0, 4), 0);
    }

    /** "FAULT: the place of the first letter of the first ITEM that is not so". */
    private static void placeOfTheFirst() {
        String[] ahead = {"", "b1;", CREW, TOWN, TOWN + CREW, TOWN + "b9;w0,2;" + CREW};
        String[] faulty = {"x", "t0,1,1,10;", "c0,1;", "w9,1;", "b31;", ";", "t0,1,1,1", "t0,100,1,1;", "c1,1,;"};
        for (String good : ahead) {
            faultIs("4: none", good, Check.NONE);
            for (String fault : faulty) {
                faultIs("4: its first letter", good + fault, good.length());
                faultIs("4: the first of several", good + fault + "x;" + CREW, good.length());
                faultIs("4: whatever is good behind it", good + fault + TOWN, good.length());
            }
        }
        PaidToGoAway x = Check.written("t0,1,1,1;c1,1;w1");
        due("4: till it is written out", x.fault(), 14);
        Check.write(x, "1,1;");
        due("4: a fault still", x.fault(), 14);
        x.wipe();
        due("4: none of an empty text", x.fault(), Check.NONE);
    }

    /** "LAID is a TEXT without FAULT, of a TOWN and a CREW at least (NO else)". */
    private static void aTownAndACrewAtLeast() {
        due("5: neither", Check.written("b5;").lay(), Check.NO);
        due("5: no letter", Check.written("").lay(), Check.NO);
        due("5: a town alone", Check.written(TOWN).lay(), Check.NO);
        due("5: six towns alone", Check.written(many(TOWN, 6)).lay(), Check.NO);
        due("5: a crew alone", Check.written(CREW).lay(), Check.NO);
        due("5: three crews alone", Check.written(many(CREW, 3)).lay(), Check.NO);
        due("5: a town, a crew", Check.written(TOWN + CREW).lay(), 1);
        due("5: a crew, a town", Check.written(CREW + TOWN).lay(), 1);
        due("5: and a fault", Check.written(TOWN + CREW + "x").lay(), Check.NO);
        due("5: and a fault ahead", Check.written("x" + TOWN + CREW).lay(), Check.NO);
        PaidToGoAway x = Check.written(TOWN + CREW);
        due("5: laid", x.lay(), 1);
        due("5: THE TEXT stays", x.count(9), 14);
        due("5: laid again", x.lay(), 1);
        x.write(' ');
        due("5: a fault behind it", x.lay(), Check.NO);
        due("5: THE TEXT stays by NO", x.count(9), 15);
    }

    /** "SPRING 0, nothing FOUND, UNDONE, KEPT": with as much of each as there can be. */
    private static void layLeavesNothing() {
        PaidToGoAway x = Check.written("t2,30,9,1;t0,20,3,0;t0,50,9,9;c30,12;c9,9;c8,8;w0,2;w1,1;w2,1;b3;");
        due("5: lay", x.lay(), 3);
        String first = Check.state(x);
        for (int i = 0; i < 6; i++) {
            x.found(i % 3, 1 + i, 5);
        }
        for (int i = 0; i < 9; i++) {
            x.pass(1);
        }
        x.land(2, 1);
        x.land(2, 2);
        x.way(0, 3);
        x.keep();
        x.keep();
        int[] counts = {6, 8, 2};
        for (int what = 6; what <= 8; what++) {
            due("5: all is full", x.count(what), counts[what - 6]);
        }
        due("5: crews are gone", x.count(4), 2);
        // A trial's crews that are gone, and its burnt towns, must not be laid.
        x.behind(30, 0, 0);
        due("5: lay again", x.lay(), 3);
        CHECK.same("5: as if for the first time", Check.state(x), first);
        due("5: nothing UNDONE", x.undo(), Check.NO);
        due("5: nothing KEPT", x.back(), Check.NO);
        due("5: nothing FOUND", x.hoard(0, 0), 100);
        due("5: nothing FOUND", x.forget(), 0);
        PaidToGoAway y = Check.laid("t2,30,9,1;t0,20,3,0;t0,50,9,9;c30,12;c9,9;c8,8;w0,2;w1,1;w2,1;b3;");
        for (int n = 0; n <= 30; n++) {
            for (int t = 0; t < 3; t++) {
                due("5: what comes is as of a new one", x.behind(n, t, 0), y.behind(n, t, 0));
            }
        }
    }

    /** Fewer towns and crews than before: nothing of those that are no more there is left in any sum. */
    private static void fewerThanBefore() {
        String few = "t0,50,3,1;c9,8;";
        PaidToGoAway fresh = Check.laid(few);
        PaidToGoAway x = Check.laid("t0,9,1,0;t0,99,30,9;t0,99,30,9;t0,9,1,0;t0,99,30,9;t0,99,30,9;c9,60;c9,60;c1,1;w0,1;w3,1;");
        x.pass(5);
        x.land(1, 1);
        x.land(1, 2);
        due("29: some were burnt", x.count(3), 2);
        due("29: some were gone", x.count(4), 2);
        x.wipe();
        Check.write(x, few);
        x.behind(30, 0, 0);
        due("5: lay", x.lay(), 1);
        CHECK.same("5: as a new one", Check.state(x), Check.state(fresh));
        for (int part = 0; part <= 1; part++) {
            due("21: as of a new one", x.together(0, part), fresh.together(0, part));
            due("17: as of a new one", x.fire(part), fresh.fire(part));
        }
        for (int n = 1; n <= 20; n++) {
            due("16: as of a new one", x.behind(n, 0, 0), fresh.behind(n, 0, 0));
            due("20: as of a new one", x.walled(0, n), fresh.walled(0, n));
            due("25: as of a new one", x.whose(0, n, 8 * n), fresh.whose(0, n, 8 * n));
            due("26: as of a new one", x.springs(n, n, 0), fresh.springs(n, n, 0));
            due("26: as of a new one", x.springs(n, n, 1), fresh.springs(n, n, 1));
        }
    }

    /** "BAD: a number is none that is told (TOWNS, CREWS, WAYS: such as there are)". */
    private static void suchAsThereAre() {
        for (int towns = 1; towns <= 6; towns++) {
            for (int crews = 1; crews <= 3; crews++) {
                // One that had all of them first: what is no more there is not asked for.
                PaidToGoAway x = Check.laid(many("t0,9,9,9;", 6) + many(CREW, 3));
                x.wipe();
                Check.write(x, many("t0,9,9,9;", towns) + many(CREW, crews));
                x.lay();
                for (int t = -1; t <= 7; t++) {
                    boolean there = t >= 0 && t < towns;
                    due("6: such as there are", x.town(t, 3), there ? 9 : Check.BAD);
                    due("8: such as there are", x.believes(0, t), there ? 0 : Check.BAD);
                    due("9: such as there are", x.asks(0, t), there ? 1 : Check.BAD);
                }
                for (int c = -1; c <= 4; c++) {
                    boolean there = c >= 0 && c < crews;
                    due("7: such as there are", x.crew(c, 0), there ? 1 : Check.BAD);
                    due("8: such as there are", x.believes(c, 0), there ? 0 : Check.BAD);
                    due("9: such as there are", x.asks(c, 0), there ? 1 : Check.BAD);
                }
            }
        }
        PaidToGoAway x = new PaidToGoAway();
        for (int what = -3; what <= 12; what++) {
            due("6: what", x.town(0, what) == Check.BAD ? 1 : 0, what < 0 || what > 6 ? 1 : 0);
            due("7: what", x.crew(0, what) == Check.BAD ? 1 : 0, what < 0 || what > 2 ? 1 : 0);
            due("29: what", x.count(what) == Check.BAD ? 1 : 0, what < 0 || what > 9 ? 1 : 0);
        }
    }

    public static void main(String[] args) {
        aNewObjectIsThatText();
        lettersFrom32To126();
        twoHundredLetters();
        figures();
        ranges();
        lettersOfItems();
        partings();
        sixTownsAndThreeCrews();
        toldAhead();
        theLastOneCounts();
        placeOfTheFirst();
        aTownAndACrewAtLeast();
        layLeavesNothing();
        fewerThanBefore();
        suchAsThereAre();
        CHECK.end();
    }
}
