import java.util.ArrayDeque;
import java.util.ArrayList;
import java.util.Deque;
import java.util.List;
import java.util.TreeSet;
import java.util.function.Consumer;
import java.util.regex.Matcher;
import java.util.regex.Pattern;

/** The document once more, written apart from the program with all of the library, to hold their answers together. */
final class Model {
    private static final int BAD = -1, NO = -2, FULL = -3, NONE = -4;
    private static final Pattern ITEM = Pattern.compile("(?:t(\\d\\d?),(\\d\\d?),(\\d\\d?),(\\d\\d?)|c(\\d\\d?),(\\d\\d?)"
        + "|w(\\d\\d?),(\\d\\d?)|b(\\d\\d?));");
    private static final String AT_FIRST =
        "t0,60,8,2;t1,40,10,4;t2,30,5,0;t0,80,12,1;c20,15;c12,25;w1,1;w2,2;w3,3;";

    /** A world is rows of numbers: a town {kind, silver, income, walls, way, burnt, paid}, a crew {men, hunger, gone, beliefs ..}. */
    private static final class World {
        final List<int[]> towns = new ArrayList<>();
        final List<int[]> crews = new ArrayList<>();
        int wall = 10;
        int gone;

        World copy() {
            World other = new World();
            towns.forEach(t -> other.towns.add(t.clone()));
            crews.forEach(c -> other.crews.add(c.clone()));
            other.wall = wall;
            other.gone = gone;
            return other;
        }

        World after(int n) {
            World then = copy();
            for (int i = 0; i < n; i++) {
                then.spring();
            }
            return then;
        }

        int ask(int c, int t) {
            int ask = Math.max(crews.get(c)[1], crews.get(c)[3 + t] / 2);
            return towns.get(t)[0] == 3 ? ask / 2 : ask;
        }

        void spring() {
            gone++;
            for (int[] t : towns) {
                if (t[5] == 0) {
                    t[1] = Math.min(999, t[1] + t[2]);
                }
            }
            for (int[] t : towns) {
                if (t[5] == 0 && t[4] == 3 && t[1] >= wall && t[3] < 20) {
                    t[1] -= wall;
                    t[3] += 1;
                }
            }
            for (int c = 0; c < crews.size(); c++) {
                if (crews.get(c)[2] == 0) {
                    voyage(c);
                }
            }
        }

        void voyage(int c) {
            int[] crew = crews.get(c);
            int loot = 0;
            for (int t = 0; t < towns.size(); t++) {
                int[] town = towns.get(t);
                if (town[5] == 1) {
                    continue;
                }
                int due = town[4] == 0 ? ask(c, t) : town[4] == 2 ? ask(c, t) / 3 : Integer.MAX_VALUE;
                if (town[1] >= due) {
                    town[1] -= town[0] == 2 ? (due + 1) / 2 : due;
                    town[6] += due;
                    crew[3 + t] = due * 2;
                    loot += due;
                    if (town[4] == 0) {
                        break;
                    }
                } else if (crew[0] > town[3] * (town[0] == 1 ? 6 : 5)) {
                    loot += town[1];
                    town[1] = 0;
                    town[5] = 1;
                    crew[3 + t] = 0;
                    break;
                } else {
                    crew[0] = crew[0] <= 3 ? 1 : crew[0] - 2;
                }
            }
            crew[0] = Math.min(99, crew[0] + loot / 10);
        }
    }

    private final StringBuilder text = new StringBuilder();
    private World first = new World();
    private World now;
    private Deque<World> undos = new ArrayDeque<>();
    private Deque<World> keeps = new ArrayDeque<>();
    private final List<int[]> finds = new ArrayList<>();

    Model() {
        read(AT_FIRST, first);
        now = first.copy();
    }

    /** Any call of the face by its place there (0 write, 1 wipe, .. 27 count), on this and on a program. */
    int call(int which, int a, int b, int c) {
        switch (which) {
            case 0: return a < 32 || a > 126 ? BAD : text.length() >= 200 ? FULL : text.append((char) a).length();
            case 1: return wipe();
            case 2: return read(text.toString(), new World());
            case 3: return lay();
            case 4: return !town(a) || b < 0 || b > 6 ? BAD : now.towns.get(a)[b];
            case 5: return !crew(a) || b < 0 || b > 2 ? BAD : now.crews.get(a)[b];
            case 6: return !crew(a) || !town(b) ? BAD : now.crews.get(a)[3 + b];
            case 7: return !crew(a) || !town(b) ? BAD : gone(a) || burnt(b) ? NO : now.ask(a, b);
            case 8: return a < 1 || a > 10 ? BAD : change(w -> now = w.after(a), w -> now.gone);
            case 9: return way(a, b);
            case 10: return hire(a, b, c);
            case 11: return land(a, b);
            case 12: return raise(a, b);
            case 13: return undo();
            case 14: return behind(a, b, c);
            case 15: return fire(a);
            case 16: return best(a, b, c);
            case 17: return rests(a, b, c);
            case 18: return walled(a, b);
            case 19: return together(a, b);
            case 20: return found(a, b, c);
            case 21: return forget();
            case 22: return hoard(a, b);
            case 23: return whose(a, b, c);
            case 24: return springs(a, b, c);
            case 25: return keep();
            case 26: return back();
            default: return count(a);
        }
    }

    private interface Answer {
        int of(World world);
    }

    private int change(Consumer<World> how, Answer answer) {
        undos.addLast(now.copy());
        if (undos.size() > 8) {
            undos.removeFirst();
        }
        how.accept(now);
        return answer.of(now);
    }

    private boolean town(int t) {
        return t >= 0 && t < now.towns.size();
    }

    private boolean crew(int c) {
        return c >= 0 && c < now.crews.size();
    }

    private boolean burnt(int t) {
        return now.towns.get(t)[5] == 1;
    }

    private boolean gone(int c) {
        return now.crews.get(c)[2] == 1;
    }

    private static int read(String all, World world) {
        Matcher item = ITEM.matcher(all);
        int at = 0;
        while (at < all.length()) {
            item.region(at, all.length());
            if (!item.lookingAt() || !put(item, world)) {
                return at;
            }
            at = item.end();
        }
        return NONE;
    }

    private static boolean put(Matcher item, World world) {
        int[] n = new int[10];
        for (int g = 1; g <= 9; g++) {
            n[g] = item.group(g) == null ? -1 : Integer.parseInt(item.group(g));
        }
        if (n[1] >= 0) {
            world.towns.add(new int[] {n[1], n[2], n[3], n[4], 0, 0, 0});
            return world.towns.size() <= 6 && n[1] <= 3 && n[3] <= 30 && n[4] <= 9;
        }
        if (n[5] >= 0) {
            world.crews.add(new int[] {n[5], n[6], 0, 0, 0, 0, 0, 0, 0});
            return world.crews.size() <= 3 && Math.min(n[5], n[6]) >= 1 && Math.max(n[5], n[6]) <= 60;
        }
        if (n[7] >= 0) {
            if (n[7] >= world.towns.size() || n[8] > 3) {
                return false;
            }
            world.towns.get(n[7])[4] = n[8];
            return true;
        }
        world.wall = n[9];
        return n[9] >= 1 && n[9] <= 30;
    }

    private int wipe() {
        int was = text.length();
        text.setLength(0);
        return was;
    }

    private int lay() {
        World world = new World();
        if (read(text.toString(), world) != NONE || world.towns.isEmpty() || world.crews.isEmpty()) {
            return NO;
        }
        first = world;
        now = world.copy();
        undos = new ArrayDeque<>();
        keeps = new ArrayDeque<>();
        finds.clear();
        return world.towns.size();
    }

    private int way(int t, int k) {
        if (!town(t) || k < 0 || k > 3) {
            return BAD;
        }
        int was = now.towns.get(t)[4];
        return change(w -> w.towns.get(t)[4] = k, w -> was);
    }

    private int hire(int t, int a, int b) {
        if (!town(t) || !crew(a) || !crew(b) || a == b) {
            return BAD;
        }
        if (burnt(t) || gone(a) || gone(b) || now.towns.get(t)[1] < now.crews.get(a)[1]) {
            return NO;
        }
        return change(w -> {
            int[] one = w.crews.get(a);
            int[] other = w.crews.get(b);
            w.towns.get(t)[1] -= one[1];
            int menOne = one[0];
            one[0] = Math.max(0, menOne - other[0]);
            other[0] = Math.max(0, other[0] - menOne);
            one[2] = one[0] == 0 ? 1 : 0;
            other[2] = other[0] == 0 ? 1 : 0;
        }, w -> w.crews.get(a)[0]);
    }

    private int land(int t, int c) {
        if (!town(t) || !crew(c)) {
            return BAD;
        }
        if (burnt(t) || gone(c)) {
            return NO;
        }
        return change(w -> {
            int[] town = w.towns.get(t);
            w.crews.get(c)[2] = 1;
            town[2] = Math.max(0, town[2] - w.crews.get(c)[1] / 2);
            town[3] = Math.min(20, town[3] + 2);
        }, w -> w.towns.get(t)[2]);
    }

    private int raise(int t, int u) {
        if (!town(t) || !town(u) || t == u) {
            return BAD;
        }
        if (burnt(t) || !burnt(u) || now.towns.get(t)[1] < 20) {
            return NO;
        }
        return change(w -> {
            w.towns.get(t)[1] -= 20;
            w.towns.get(u)[1] = 10;
            w.towns.get(u)[3] = 0;
            w.towns.get(u)[5] = 0;
        }, w -> w.towns.get(t)[1]);
    }

    private int undo() {
        if (undos.isEmpty()) {
            return NO;
        }
        now = undos.removeLast();
        return undos.size();
    }

    private int behind(int n, int t, int what) {
        if (!town(t) || n < 0 || n > 30 || what < 0 || what > 3) {
            return BAD;
        }
        int[] then = now.after(n).towns.get(t);
        return new int[] {then[1], then[3], then[5], then[6] - now.towns.get(t)[6]}[what];
    }

    private int fire(int what) {
        if (what != 0 && what != 1) {
            return BAD;
        }
        for (int n = 1; n <= 30; n++) {
            World then = now.after(n);
            for (int t = 0; t < now.towns.size(); t++) {
                if (then.towns.get(t)[5] == 1 && !burnt(t)) {
                    return what == 0 ? t : n;
                }
            }
        }
        return NONE;
    }

    private int best(int t, int n, int k) {
        if (!town(t) || n < 1 || n > 4 || k < -1 || k > n) {
            return BAD;
        }
        if (burnt(t)) {
            return NO;
        }
        int[] best = {-1, 0, 0, 0, 0, 0};
        row(now, t, n, 1, new int[6], best);
        return k == -1 ? best[5] : best[k];
    }

    private static void row(World world, int t, int n, int k, int[] ways, int[] best) {
        if (k > n) {
            int[] town = world.towns.get(t);
            best[5] += 1 - town[5];
            if (town[1] > best[0]) {
                best[0] = town[1];
                System.arraycopy(ways, 1, best, 1, 4);
            }
            return;
        }
        for (int way = 0; way < 4; way++) {
            World then = world.copy();
            then.towns.get(t)[4] = way;
            then.spring();
            ways[k] = way;
            row(then, t, n, k + 1, ways, best);
        }
    }

    private int silverOf(int who, int t, int way, int u, int other) {
        World then = now.copy();
        then.towns.get(t)[4] = way;
        then.towns.get(u)[4] = other;
        then.spring();
        return then.towns.get(who)[1];
    }

    private int rests(int t, int u, int what) {
        if (!town(t) || !town(u) || t == u || what < 0 || what > 1) {
            return BAD;
        }
        if (burnt(t) || burnt(u)) {
            return NO;
        }
        TreeSet<Integer> all = new TreeSet<>();
        for (int a = 0; a < 4; a++) {
            for (int b = 0; b < 4; b++) {
                boolean rest = true;
                for (int k = 0; k < 4; k++) {
                    rest &= silverOf(t, t, k, u, b) <= silverOf(t, t, a, u, b);
                    rest &= silverOf(u, t, a, u, k) <= silverOf(u, t, a, u, b);
                }
                if (rest) {
                    all.add(4 * a + b);
                }
            }
        }
        return what == 0 ? all.size() : all.isEmpty() ? NONE : all.first();
    }

    private int walled(int t, int n) {
        if (!town(t) || n < 1 || n > 20) {
            return BAD;
        }
        if (burnt(t)) {
            return NO;
        }
        for (int walls = 0; walls <= 20; walls++) {
            World then = now.copy();
            then.towns.get(t)[3] = walls;
            if (then.after(n).towns.get(t)[5] == 0) {
                return walls;
            }
        }
        return NONE;
    }

    private int together(int t, int part) {
        if (!town(t) || part < 0 || part > 1) {
            return BAD;
        }
        long all = 0;
        long asked = 0;
        for (int u = 0; u < now.towns.size(); u++) {
            for (int c = 0; c < now.crews.size() && !burnt(u); c++) {
                asked += gone(c) ? 0 : now.ask(c, u);
            }
            all += burnt(u) ? 0 : now.towns.get(u)[1];
        }
        if (burnt(t) || all == 0) {
            return NONE;
        }
        java.math.BigInteger above = java.math.BigInteger.valueOf(asked * now.towns.get(t)[1]);
        java.math.BigInteger below = java.math.BigInteger.valueOf(all);
        return (part == 0 ? above : below).divide(above.gcd(below)).intValueExact();
    }

    private int found(int t, int spring, int silver) {
        if (!town(t) || spring < 1 || spring > 20 || silver < 0 || silver > 999) {
            return BAD;
        }
        if (finds.size() == 6) {
            return FULL;
        }
        finds.add(new int[] {t, spring, silver});
        return finds.size();
    }

    private int forget() {
        int were = finds.size();
        finds.clear();
        return were;
    }

    private int hoard(int t, int what) {
        if (!town(t) || what < 0 || what > 1) {
            return BAD;
        }
        TreeSet<Integer> can = new TreeSet<>();
        for (int silver = 0; silver < 100; silver++) {
            World world = first.copy();
            world.towns.get(t)[1] = silver;
            if (finds.stream().allMatch(f -> world.after(f[1]).towns.get(f[0])[1] == f[2])) {
                can.add(silver);
            }
        }
        return what == 0 ? can.size() : can.isEmpty() ? NONE : can.first();
    }

    private int whose(int t, int spring, int n) {
        if (!town(t) || spring < 1 || spring > 20 || n < 0 || n > 9999) {
            return BAD;
        }
        int bits = 0;
        for (int c = 0; c < first.crews.size(); c++) {
            World world = first.copy();
            world.crews.clear();
            world.crews.add(first.crews.get(c).clone());
            bits += world.after(spring).towns.get(t)[6] == n ? 1 << c : 0;
        }
        return bits;
    }

    private int springs(int z, int n, int what) {
        if (z < 0 || z > 9999 || n < 1 || n > 30 || what < 0 || what > 1) {
            return BAD;
        }
        World world = now.copy();
        for (int k = 0; k < n; k++) {
            for (int i = 0; i < world.crews.size(); i++) {
                int[] crew = world.crews.get(i);
                java.math.BigInteger x = java.math.BigInteger.valueOf(7919L * z + 6151L * k + 331L * i + 1);
                int draw = x.pow(2).mod(java.math.BigInteger.valueOf(65521)).intValue() / 8;
                crew[0] = crew[2] == 1 ? crew[0] : Math.min(99, crew[0] + draw % 5);
            }
            world.spring();
        }
        return world.towns.stream().mapToInt(t -> what == 0 ? t[5] : t[1]).sum();
    }

    private int keep() {
        if (keeps.size() == 2) {
            return FULL;
        }
        keeps.push(now.copy());
        return keeps.size();
    }

    private int back() {
        if (keeps.isEmpty()) {
            return NO;
        }
        now = keeps.pop();
        undos.clear();
        return keeps.size();
    }

    private int count(int what) {
        switch (what) {
            case 0: return now.towns.size();
            case 1: return now.crews.size();
            case 2: return now.gone;
            case 3: return now.towns.stream().mapToInt(t -> t[5]).sum();
            case 4: return now.crews.stream().mapToInt(c -> c[2]).sum();
            case 5: return now.towns.stream().mapToInt(t -> t[1]).sum();
            case 6: return finds.size();
            case 7: return undos.size();
            case 8: return keeps.size();
            case 9: return text.length();
            default: return BAD;
        }
    }
}
