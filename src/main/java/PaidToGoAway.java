/** Towns along a river that pay crews to go away, each spring anew. */
public final class PaidToGoAway {
    public static final int BAD = -1, NO = -2, FULL = -3, NONE = -4;

    private static final String FIRST_TEXT =
        "t0,60,8,2;t1,40,10,4;t2,30,5,0;t0,80,12,1;c20,15;c12,25;w1,1;w2,2;w3,3;";
    private static final int MOST_TOWNS = 6;
    private static final int MOST_CREWS = 3;
    private static final int MOST_LETTERS = 200;
    private static final int MOST_FOUND = 6;
    private static final int MOST_UNDONE = 8;
    private static final int MOST_KEPT = 2;
    private static final int MOST_SILVER = 999;
    private static final int MOST_WALLS = 20;
    private static final int MOST_MEN = 99;
    private static final int MOST_SPRINGS = 30;
    private static final int MOST_SPRINGS_LAID = 20;
    private static final int COST_UNTOLD = 10;
    private static final int RAISING = 20;
    private static final int RAISED = 10;

    private static final int PROUD = 1, FORGING = 2, HOLY = 3;
    private static final int WAYS = 4;
    private static final int PAY = 0, SEND_ON = 2, BUILD = 3;

    private final char[] letters = new char[MOST_LETTERS];
    private int length;
    private final Reader reader = new Reader();
    private final River laid = firstRiver();
    private final River now = firstRiver();
    private final River trial = new River();
    private final Shelf past = new Shelf(MOST_UNDONE);
    private final Shelf kept = new Shelf(MOST_KEPT);
    private final Finds finds = new Finds();
    private final int[] oneHas = new int[WAYS * WAYS];
    private final int[] otherHas = new int[WAYS * WAYS];

    public PaidToGoAway() {
    }

    private static River firstRiver() {
        River river = new River();
        new Reader().read(FIRST_TEXT.toCharArray(), FIRST_TEXT.length(), river);
        return river;
    }

    // ---- rivers

    public int write(int letter) {
        if (letter < 32 || letter > 126) {
            return BAD;
        }
        if (length < 0 || length >= letters.length) {
            return FULL;
        }
        letters[length] = (char) letter;
        length++;
        return length;
    }

    public int wipe() {
        int was = length;
        length = 0;
        return was;
    }

    public int fault() {
        return reader.read(letters, length, trial);
    }

    public int lay() {
        if (reader.read(letters, length, trial) != NONE || trial.townsThere() == 0 || trial.crewsThere() == 0) {
            return NO;
        }
        laid.copy(trial);
        now.copy(laid);
        finds.many = 0;
        past.many = 0;
        kept.many = 0;
        return now.townsThere();
    }

    public int town(int t, int what) {
        Town town = now.townAt(t);
        if (town == null) {
            return BAD;
        }
        switch (what) {
            case 0: return town.kind;
            case 1: return town.silver;
            case 2: return town.income;
            case 3: return town.walls;
            case 4: return town.way;
            case 5: return town.burnt ? 1 : 0;
            case 6: return town.paid;
            default: return BAD;
        }
    }

    public int crew(int c, int what) {
        Crew crew = now.crewAt(c);
        if (crew == null) {
            return BAD;
        }
        switch (what) {
            case 0: return crew.men;
            case 1: return crew.hunger;
            case 2: return crew.gone ? 1 : 0;
            default: return BAD;
        }
    }

    public int believes(int c, int t) {
        Crew crew = now.crewAt(c);
        if (crew == null || now.townAt(t) == null) {
            return BAD;
        }
        return crew.beliefOf(t);
    }

    public int asks(int c, int t) {
        Crew crew = now.crewAt(c);
        Town town = now.townAt(t);
        if (crew == null || town == null) {
            return BAD;
        }
        if (crew.gone || town.burnt) {
            return NO;
        }
        return crew.wouldAsk(town, t);
    }

    // ---- springs

    public int pass(int n) {
        if (n < 1 || n > 10) {
            return BAD;
        }
        past.put(now);
        now.goBy(n);
        return now.springsGone;
    }

    public int way(int t, int k) {
        Town town = now.townAt(t);
        if (town == null || k < 0 || k >= WAYS) {
            return BAD;
        }
        past.put(now);
        int was = town.way;
        town.way = k;
        return was;
    }

    public int hire(int t, int a, int b) {
        Town town = now.townAt(t);
        Crew hired = now.crewAt(a);
        Crew fought = now.crewAt(b);
        if (town == null || hired == null || fought == null || a == b) {
            return BAD;
        }
        if (town.burnt || hired.gone || fought.gone || town.silver < hired.hunger) {
            return NO;
        }
        past.put(now);
        town.silver -= hired.hunger;
        int fallen = Math.min(hired.men, fought.men);
        hired.fightLosing(fallen);
        fought.fightLosing(fallen);
        return hired.men;
    }

    public int land(int t, int c) {
        Town town = now.townAt(t);
        Crew crew = now.crewAt(c);
        if (town == null || crew == null) {
            return BAD;
        }
        if (town.burnt || crew.gone) {
            return NO;
        }
        past.put(now);
        crew.gone = true;
        town.income = Math.max(0, town.income - crew.hunger / 2);
        town.walls = Math.min(MOST_WALLS, town.walls + 2);
        return town.income;
    }

    public int raise(int t, int u) {
        Town raiser = now.townAt(t);
        Town ruin = now.townAt(u);
        if (raiser == null || ruin == null || t == u) {
            return BAD;
        }
        if (raiser.burnt || !ruin.burnt || raiser.silver < RAISING) {
            return NO;
        }
        past.put(now);
        raiser.silver -= RAISING;
        ruin.burnt = false;
        ruin.silver = RAISED;
        ruin.walls = 0;
        return raiser.silver;
    }

    public int undo() {
        if (past.many == 0) {
            return NO;
        }
        past.takeInto(now);
        return past.many;
    }

    // ---- what comes

    public int behind(int n, int t, int what) {
        Town town = now.townAt(t);
        if (town == null || n < 0 || n > MOST_SPRINGS || what < 0 || what > 3) {
            return BAD;
        }
        trial.copy(now);
        trial.goBy(n);
        Town then = trial.townAt(t);
        if (then == null) {
            return BAD;
        }
        switch (what) {
            case 0: return then.silver;
            case 1: return then.walls;
            case 2: return then.burnt ? 1 : 0;
            default: return then.paid - town.paid;
        }
    }

    public int fire(int what) {
        if (what < 0 || what > 1) {
            return BAD;
        }
        trial.copy(now);
        for (int spring = 1; spring <= MOST_SPRINGS; spring++) {
            trial.goBy(1);
            int who = trial.firstBurntSince(now);
            if (who != NONE) {
                return what == 0 ? who : spring;
            }
        }
        return NONE;
    }

    public int best(int t, int n, int k) {
        Town town = now.townAt(t);
        if (town == null || n < 1 || n > 4 || k < -1 || k > n) {
            return BAD;
        }
        if (town.burnt) {
            return NO;
        }
        int most = -1;
        int bestRow = 0;
        int safe = 0;
        int rows = 1 << (2 * n);
        for (int row = 0; row < rows; row++) {
            int has = silverByRow(t, n, row);
            if (has > most) {
                most = has;
                bestRow = row;
            }
            if (trial.standsAt(t)) {
                safe++;
            }
        }
        if (k == -1) {
            return safe;
        }
        return k == 0 ? most : wayInRow(bestRow, n, k);
    }

    public int rests(int t, int u, int what) {
        Town one = now.townAt(t);
        Town other = now.townAt(u);
        if (one == null || other == null || t == u || what < 0 || what > 1) {
            return BAD;
        }
        if (one.burnt || other.burnt) {
            return NO;
        }
        for (int two = 0; two < WAYS * WAYS; two++) {
            trySpringOf(t, u, two);
        }
        int many = 0;
        int first = NONE;
        for (int two = 0; two < WAYS * WAYS; two++) {
            if (isRest(two)) {
                many++;
                first = first == NONE ? two : first;
            }
        }
        return what == 0 ? many : first;
    }

    public int walled(int t, int n) {
        Town town = now.townAt(t);
        if (town == null || n < 1 || n > 20) {
            return BAD;
        }
        if (town.burnt) {
            return NO;
        }
        for (int walls = 0; walls <= MOST_WALLS; walls++) {
            if (standsWith(t, walls, n)) {
                return walls;
            }
        }
        return NONE;
    }

    // ---- shares, hoards

    public int together(int t, int part) {
        Town town = now.townAt(t);
        if (town == null || part < 0 || part > 1) {
            return BAD;
        }
        int all = now.silverOfAll();
        if (town.burnt || all <= 0) {
            return NONE;
        }
        int above = now.askedOfAll() * town.silver;
        int common = commonDivisor(above, all);
        if (common <= 0) {
            return NONE;
        }
        return part == 0 ? above / common : all / common;
    }

    public int found(int t, int spring, int silver) {
        if (now.townAt(t) == null || spring < 1 || spring > MOST_SPRINGS_LAID) {
            return BAD;
        }
        if (silver < 0 || silver > MOST_SILVER) {
            return BAD;
        }
        if (!finds.add(t, spring, silver)) {
            return FULL;
        }
        return finds.many;
    }

    public int forget() {
        int were = finds.many;
        finds.many = 0;
        return were;
    }

    public int hoard(int t, int what) {
        if (laid.townAt(t) == null || what < 0 || what > 1) {
            return BAD;
        }
        int many = 0;
        int lowest = NONE;
        for (int silver = 0; silver <= 99; silver++) {
            if (wouldBeFound(t, silver)) {
                many++;
                lowest = lowest == NONE ? silver : lowest;
            }
        }
        return what == 0 ? many : lowest;
    }

    public int whose(int t, int spring, int n) {
        if (laid.townAt(t) == null || spring < 1 || spring > MOST_SPRINGS_LAID || n < 0 || n > 9999) {
            return BAD;
        }
        int bits = 0;
        for (int c = 0; c < MOST_CREWS; c++) {
            if (laid.crewAt(c) != null && paidToOnly(c, t, spring) == n) {
                bits |= 1 << c;
            }
        }
        return bits;
    }

    public int springs(int z, int n, int what) {
        if (z < 0 || z > 9999 || n < 1 || n > MOST_SPRINGS || what < 0 || what > 1) {
            return BAD;
        }
        trial.copy(now);
        for (int k = 0; k < n; k++) {
            trial.joinDrawn(z, k);
            trial.goBy(1);
        }
        return what == 0 ? trial.townsBurnt() : trial.silverOfAll();
    }

    public int keep() {
        if (kept.many >= MOST_KEPT) {
            return FULL;
        }
        kept.put(now);
        return kept.many;
    }

    public int back() {
        if (kept.many == 0) {
            return NO;
        }
        kept.takeInto(now);
        past.many = 0;
        return kept.many;
    }

    public int count(int what) {
        switch (what) {
            case 0: return now.townsThere();
            case 1: return now.crewsThere();
            case 2: return now.springsGone;
            case 3: return now.townsBurnt();
            case 4: return now.crewsGone();
            case 5: return now.silverOfAll();
            case 6: return finds.many;
            case 7: return past.many;
            case 8: return kept.many;
            case 9: return length;
            default: return BAD;
        }
    }

    // ---- trials: each plays on a copy, so nothing of the river itself changes

    private int silverByRow(int t, int n, int row) {
        trial.copy(now);
        Town town = trial.townAt(t);
        if (town == null) {
            return 0;
        }
        for (int k = 1; k <= n; k++) {
            town.way = wayInRow(row, n, k);
            trial.goBy(1);
        }
        return town.silver;
    }

    // A row is a number of n figures of base 4, the first WAY its highest, so that rows stand in their order.
    private static int wayInRow(int row, int n, int k) {
        return (row >> (2 * (n - k))) & 3;
    }

    private void trySpringOf(int t, int u, int two) {
        trial.copy(now);
        Town one = trial.townAt(t);
        Town other = trial.townAt(u);
        if (one == null || other == null || two < 0 || two >= oneHas.length || two >= otherHas.length) {
            return;
        }
        one.way = two / WAYS;
        other.way = two % WAYS;
        trial.goBy(1);
        oneHas[two] = one.silver;
        otherHas[two] = other.silver;
    }

    private boolean isRest(int two) {
        int one = two / WAYS;
        int other = two % WAYS;
        for (int k = 0; k < WAYS; k++) {
            if (hasMore(oneHas, k * WAYS + other, two) || hasMore(otherHas, one * WAYS + k, two)) {
                return false;
            }
        }
        return true;
    }

    private static boolean hasMore(int[] has, int there, int here) {
        if (there < 0 || there >= has.length || here < 0 || here >= has.length) {
            return false;
        }
        return has[there] > has[here];
    }

    private boolean standsWith(int t, int walls, int n) {
        trial.copy(now);
        Town town = trial.townAt(t);
        if (town == null) {
            return false;
        }
        town.walls = walls;
        trial.goBy(n);
        return !town.burnt;
    }

    private boolean wouldBeFound(int t, int silver) {
        trial.copy(laid);
        Town town = trial.townAt(t);
        if (town == null) {
            return false;
        }
        town.silver = silver;
        int last = finds.lastSpring();
        for (int spring = 1; spring <= last; spring++) {
            trial.goBy(1);
            if (!finds.agree(trial, spring)) {
                return false;
            }
        }
        return true;
    }

    private int paidToOnly(int c, int t, int spring) {
        trial.copy(laid);
        trial.leaveOnly(c);
        trial.goBy(spring);
        Town town = trial.townAt(t);
        return town == null ? 0 : town.paid;
    }

    private static int commonDivisor(int a, int b) {
        int more = a;
        int less = b;
        // Euclid's rests halve in two steps at least: 64 steps are enough for every int.
        for (int step = 0; step < 64 && less != 0; step++) {
            int rest = more % less;
            more = less;
            less = rest;
        }
        return more;
    }

    /** A place on the river, with the town there, if there is one. */
    private static final class Town {
        private boolean there;
        private boolean burnt;
        private int kind;
        private int silver;
        private int income;
        private int walls;
        private int way;
        private int paid;

        private void copy(Town from) {
            there = from.there;
            burnt = from.burnt;
            kind = from.kind;
            silver = from.silver;
            income = from.income;
            walls = from.walls;
            way = from.way;
            paid = from.paid;
        }

        private boolean stands() {
            return there && !burnt;
        }

        private void earn() {
            silver = Math.min(MOST_SILVER, silver + income);
        }

        private void build(int cost) {
            if (way == BUILD && silver >= cost && walls < MOST_WALLS) {
                silver -= cost;
                walls++;
            }
        }

        private void give(int asked) {
            // A forging town's crew takes the false coins for good ones, so what is paid counts whole.
            silver -= kind == FORGING ? asked - asked / 2 : asked;
            paid += asked;
        }

        private int menHeldOff() {
            return walls * (kind == PROUD ? 6 : 5);
        }
    }

    /** A crew, if it is there. */
    private static final class Crew {
        private boolean there;
        private boolean gone;
        private int men;
        private int hunger;
        private int spoils;
        private final int[] beliefs = new int[MOST_TOWNS];

        private void copy(Crew from) {
            there = from.there;
            gone = from.gone;
            men = from.men;
            hunger = from.hunger;
            for (int t = 0; t < beliefs.length; t++) {
                beliefs[t] = from.beliefOf(t);
            }
        }

        private boolean sails() {
            return there && !gone;
        }

        private int beliefOf(int t) {
            return t >= 0 && t < beliefs.length ? beliefs[t] : 0;
        }

        private void believe(int t, int silver) {
            if (t >= 0 && t < beliefs.length) {
                beliefs[t] = silver;
            }
        }

        private int wouldAsk(Town town, int t) {
            int asked = Math.max(hunger, beliefOf(t) / 2);
            return town.kind == HOLY ? asked / 2 : asked;
        }

        private void takePay(Town town, int t, int silver) {
            town.give(silver);
            spoils += silver;
            believe(t, 2 * silver);
        }

        private void burn(Town town, int t) {
            spoils += town.silver;
            town.silver = 0;
            town.burnt = true;
            believe(t, 0);
        }

        private void goHome() {
            grow(spoils / 10);
            spoils = 0;
        }

        private void grow(int more) {
            men = Math.min(MOST_MEN, men + more);
        }

        private void fightLosing(int fallen) {
            men -= fallen;
            gone = men <= 0;
        }
    }

    /** All that stands at one time: towns, crews, the cost of walls, springs gone by. */
    private static final class River {
        private final Town[] towns = new Town[MOST_TOWNS];
        private final Crew[] crews = new Crew[MOST_CREWS];
        private int wallCost;
        private int springsGone;

        private River() {
            for (int t = 0; t < towns.length; t++) {
                towns[t] = new Town();
            }
            for (int c = 0; c < crews.length; c++) {
                crews[c] = new Crew();
            }
        }

        private void copy(River from) {
            for (int t = 0; t < towns.length && t < from.towns.length; t++) {
                towns[t].copy(from.towns[t]);
            }
            for (int c = 0; c < crews.length && c < from.crews.length; c++) {
                crews[c].copy(from.crews[c]);
            }
            wallCost = from.wallCost;
            springsGone = from.springsGone;
        }

        private void clear() {
            for (int t = 0; t < towns.length; t++) {
                towns[t].there = false;
            }
            for (int c = 0; c < crews.length; c++) {
                crews[c].there = false;
            }
            wallCost = COST_UNTOLD;
            springsGone = 0;
        }

        private Town townAt(int t) {
            return t >= 0 && t < towns.length && towns[t].there ? towns[t] : null;
        }

        private Crew crewAt(int c) {
            return c >= 0 && c < crews.length && crews[c].there ? crews[c] : null;
        }

        private boolean standsAt(int t) {
            Town town = townAt(t);
            return town != null && !town.burnt;
        }

        private boolean settle(int kind, int silver, int income, int walls) {
            int t = townsThere();
            if (kind > HOLY || income > 30 || walls > 9 || t >= towns.length) {
                return false;
            }
            Town town = towns[t];
            town.there = true;
            town.burnt = false;
            town.kind = kind;
            town.silver = silver;
            town.income = income;
            town.walls = walls;
            town.way = PAY;
            town.paid = 0;
            return true;
        }

        private boolean man(int men, int hunger) {
            int c = crewsThere();
            if (men < 1 || men > 60 || hunger < 1 || hunger > 60 || c >= crews.length) {
                return false;
            }
            Crew crew = crews[c];
            crew.there = true;
            crew.gone = false;
            crew.men = men;
            crew.hunger = hunger;
            for (int t = 0; t < MOST_TOWNS; t++) {
                crew.believe(t, 0);
            }
            return true;
        }

        private boolean goWay(int t, int k) {
            Town town = townAt(t);
            if (town == null || k >= WAYS) {
                return false;
            }
            town.way = k;
            return true;
        }

        private boolean costWalls(int cost) {
            if (cost < 1 || cost > 30) {
                return false;
            }
            wallCost = cost;
            return true;
        }

        private void leaveOnly(int only) {
            for (int c = 0; c < crews.length; c++) {
                crews[c].there = crews[c].there && c == only;
            }
        }

        private void goBy(int n) {
            for (int i = 0; i < n; i++) {
                earnAndBuild();
                for (int c = 0; c < crews.length; c++) {
                    if (crews[c].sails()) {
                        comeUp(crews[c]);
                    }
                }
                springsGone++;
            }
        }

        private void earnAndBuild() {
            for (int t = 0; t < towns.length; t++) {
                if (towns[t].stands()) {
                    towns[t].earn();
                    towns[t].build(wallCost);
                }
            }
        }

        private void comeUp(Crew crew) {
            boolean home = false;
            for (int t = 0; t < towns.length && !home; t++) {
                home = towns[t].stands() && sendsHome(towns[t], t, crew);
            }
            crew.goHome();
        }

        private static boolean sendsHome(Town town, int t, Crew crew) {
            int asked = crew.wouldAsk(town, t);
            if (town.way == PAY && town.silver >= asked) {
                crew.takePay(town, t, asked);
                return true;
            }
            if (town.way == SEND_ON && town.silver >= asked / 3) {
                crew.takePay(town, t, asked / 3);
                return false;
            }
            if (crew.men > town.menHeldOff()) {
                crew.burn(town, t);
                return true;
            }
            crew.men = Math.max(1, crew.men - 2);
            return false;
        }

        private void joinDrawn(int z, int k) {
            for (int c = 0; c < crews.length; c++) {
                if (crews[c].sails()) {
                    long x = 7919L * z + 6151L * k + 331L * c + 1;
                    crews[c].grow((int) (x * x % 65521 / 8 % 5));
                }
            }
        }

        private int firstBurntSince(River before) {
            for (int t = 0; t < towns.length; t++) {
                if (before.standsAt(t) && !standsAt(t)) {
                    return t;
                }
            }
            return NONE;
        }

        private int askedOfAll() {
            int sum = 0;
            for (int c = 0; c < crews.length; c++) {
                for (int t = 0; t < towns.length; t++) {
                    if (crews[c].sails() && towns[t].stands()) {
                        sum += crews[c].wouldAsk(towns[t], t);
                    }
                }
            }
            return sum;
        }

        private int silverOfAll() {
            int sum = 0;
            for (int t = 0; t < towns.length; t++) {
                if (towns[t].stands()) {
                    sum += towns[t].silver;
                }
            }
            return sum;
        }

        private int townsThere() {
            int many = 0;
            for (int t = 0; t < towns.length; t++) {
                if (towns[t].there) {
                    many++;
                }
            }
            return many;
        }

        private int townsBurnt() {
            int many = 0;
            for (int t = 0; t < towns.length; t++) {
                if (towns[t].there && towns[t].burnt) {
                    many++;
                }
            }
            return many;
        }

        private int crewsThere() {
            int many = 0;
            for (int c = 0; c < crews.length; c++) {
                if (crews[c].there) {
                    many++;
                }
            }
            return many;
        }

        private int crewsGone() {
            int many = 0;
            for (int c = 0; c < crews.length; c++) {
                if (crews[c].there && crews[c].gone) {
                    many++;
                }
            }
            return many;
        }
    }

    /** Reads a text onto a river. */
    private static final class Reader {
        private static final int MOST_NUMBERS = 4;

        private final int[] numbers = new int[MOST_NUMBERS];

        private int read(char[] text, int length, River onto) {
            onto.clear();
            int end = Math.min(length, text.length);
            int place = 0;
            for (int items = 0; items < end && place < end; items++) {
                int next = itemEnd(text, end, place);
                if (next == NONE || !takes(text[place], onto)) {
                    return place;
                }
                place = next;
            }
            return NONE;
        }

        private int itemEnd(char[] text, int end, int place) {
            int wanted = numbersBehind(text[place]);
            if (wanted == 0) {
                return NONE;
            }
            int at = place + 1;
            for (int i = 0; i < wanted && i < numbers.length; i++) {
                int figures = figuresAt(text, end, at);
                if (figures == 0) {
                    return NONE;
                }
                numbers[i] = numberAt(text, end, at, figures);
                at += figures;
                char parting = i == wanted - 1 ? ';' : ',';
                if (at >= end || text[at] != parting) {
                    return NONE;
                }
                at++;
            }
            return at;
        }

        private static int numbersBehind(char letter) {
            if (letter == 't') {
                return 4;
            }
            if (letter == 'c' || letter == 'w') {
                return 2;
            }
            return letter == 'b' ? 1 : 0;
        }

        private static int figuresAt(char[] text, int end, int at) {
            if (!isFigure(text, end, at)) {
                return 0;
            }
            return isFigure(text, end, at + 1) ? 2 : 1;
        }

        private static boolean isFigure(char[] text, int end, int at) {
            return at >= 0 && at < end && at < text.length && text[at] >= '0' && text[at] <= '9';
        }

        private static int numberAt(char[] text, int end, int at, int figures) {
            int number = 0;
            for (int i = at; i < at + figures && isFigure(text, end, i); i++) {
                number = 10 * number + (text[i] - '0');
            }
            return number;
        }

        private boolean takes(char letter, River onto) {
            if (letter == 't') {
                return onto.settle(numbers[0], numbers[1], numbers[2], numbers[3]);
            }
            if (letter == 'c') {
                return onto.man(numbers[0], numbers[1]);
            }
            if (letter == 'w') {
                return onto.goWay(numbers[0], numbers[1]);
            }
            return letter == 'b' && onto.costWalls(numbers[0]);
        }
    }

    /** Rivers laid by, of which the last comes first; where there is no room the oldest makes it. */
    private static final class Shelf {
        private final River[] rivers;
        private int many;

        private Shelf(int room) {
            rivers = new River[Math.max(1, room)];
            for (int i = 0; i < rivers.length; i++) {
                rivers[i] = new River();
            }
        }

        private void put(River river) {
            if (many >= rivers.length) {
                dropOldest();
            }
            if (many >= 0 && many < rivers.length) {
                rivers[many].copy(river);
                many++;
            }
        }

        private void dropOldest() {
            River oldest = rivers[0];
            for (int i = 1; i < rivers.length; i++) {
                rivers[i - 1] = rivers[i];
            }
            rivers[rivers.length - 1] = oldest;
            many = rivers.length - 1;
        }

        private void takeInto(River river) {
            if (many > 0 && many <= rivers.length) {
                many--;
                river.copy(rivers[many]);
            }
        }
    }

    /** What was found of towns' silver. */
    private static final class Finds {
        private final int[] towns = new int[MOST_FOUND];
        private final int[] springs = new int[MOST_FOUND];
        private final int[] silvers = new int[MOST_FOUND];
        private int many;

        private boolean add(int t, int spring, int silver) {
            if (many < 0 || many >= MOST_FOUND) {
                return false;
            }
            towns[many] = t;
            springs[many] = spring;
            silvers[many] = silver;
            many++;
            return true;
        }

        private int lastSpring() {
            int last = 0;
            for (int i = 0; i < many && i < MOST_FOUND; i++) {
                last = Math.max(last, springs[i]);
            }
            return last;
        }

        private boolean agree(River river, int spring) {
            for (int i = 0; i < many && i < MOST_FOUND; i++) {
                Town town = river.townAt(towns[i]);
                if (springs[i] == spring && (town == null || town.silver != silvers[i])) {
                    return false;
                }
            }
            return true;
        }
    }
}
