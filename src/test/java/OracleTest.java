import java.util.ArrayList;
import java.util.List;
import java.util.Random;

/** Random runs of calls, each answer against a slow model that follows the document's words. */
public final class OracleTest {
    private static int wrong = 0;
    private static int compared = 0;

    /** The document's words, done in the slowest and plainest way. */
    private static final class Model {
        int n = 6;
        final StringBuilder[] pages = new StringBuilder[6];
        final List<int[]> keys = new ArrayList<>();
        final int[][] goings = new int[12][12];
        List<Integer> bodies = new ArrayList<>();
        int[] fixed = {-1, -1, -1, -1, -1, -1, -1, -1, -1, -1};
        int[] setting = null;
        int[] found = null;
        long foundCost = 0;
        int tries = 0;
        boolean spent = false;

        boolean letter(int l) { return 0 <= l && l < n; }
        boolean key(int k) { return 0 <= k && k < keys.size(); }

        int letters(int m) {
            if (m < 1 || m > 10) return -2;
            int before = n;
            n = m;
            setting = null;
            found = null;
            fixed = new int[] {-1, -1, -1, -1, -1, -1, -1, -1, -1, -1};
            return before;
        }

        int feed(int page, long w, int m) {
            if (page < 0 || page > 5 || m < 1 || m > 8) return -2;
            int had = pages[page] == null ? 0 : pages[page].length();
            if (had + m > 300) return -4;
            if (pages[page] == null) pages[page] = new StringBuilder();
            byte[] bytes = java.nio.ByteBuffer.allocate(8).putLong(w).array();
            for (int i = 8 - m; i < 8; i++) pages[page].append((char) (bytes[i] & 0xff));
            found = null;
            return pages[page].length();
        }

        int tear(int page) {
            if (page < 0 || page > 5) return -2;
            if (pages[page] == null) return -3;
            int had = pages[page].length();
            pages[page] = null;
            found = null;
            return had;
        }

        int oftenOf(int a, int b) {
            String two = "" + (char) ('a' + a) + (char) ('a' + b);
            int times = 0;
            for (StringBuilder p : pages) {
                if (p == null) continue;
                for (int i = p.indexOf(two); i >= 0; i = p.indexOf(two, i + 1)) times++;
            }
            return times;
        }

        int often(int a, int b) { return letter(a) && letter(b) ? oftenOf(a, b) : -2; }

        int newKey(int kind, int extra) {
            if (kind < 0 || kind > 3 || extra < 0 || extra > 1000) return -2;
            if (keys.size() == 12) return -4;
            keys.add(new int[] {kind, extra});
            found = null;
            return keys.size() - 1;
        }

        int go(int i, int k, int c) {
            if (!key(i) || !key(k) || c < 0 || c > 1000) return -2;
            int before = goings[i][k];
            goings[i][k] = c;
            found = null;
            return before;
        }

        int ask(int body, int i, int k, List<Integer> asked) {
            asked.add(body);
            if (body == 1) return goings[i][k];
            if (body == 2) return ask(1, i, k, asked) / 2;
            if (body == 3) return ask(1, i, k, asked) + keys.get(k)[1];
            return 2 * ask(3, i, k, asked);
        }

        int costOf(int i, int k) { return ask(keys.get(k)[0] + 1, i, k, new ArrayList<>()); }

        int cost(int i, int k) {
            if (!key(i) || !key(k)) return -2;
            bodies = new ArrayList<>();
            return ask(keys.get(k)[0] + 1, i, k, bodies);
        }

        int body(int i) { return i >= 0 && i < bodies.size() ? bodies.get(i) : -1; }

        int fix(int letter, int key) {
            if (!letter(letter) || (key != -1 && !key(key))) return -2;
            for (int l = 0; l < n; l++) if (key != -1 && l != letter && fixed[l] == key) return -3;
            int before = fixed[letter];
            fixed[letter] = key;
            setting = null;
            found = null;
            return before;
        }

        boolean mayBear(int letter, int key) {
            for (int l = 0; l < n; l++) if (fixed[l] == key && l != letter) return false;
            return fixed[letter] == -1 || fixed[letter] == key;
        }

        static boolean bears(int[] s, int upTo, int key) {
            for (int l = 0; l < upTo; l++) if (s[l] == key) return true;
            return false;
        }

        int first() {
            if (keys.size() < n) return -3;
            setting = new int[n];
            for (int l = 0; l < n; l++) {
                int k = 0;
                while (!mayBear(l, k) || bears(setting, l, k)) k++;
                setting[l] = k;
            }
            return 1;
        }

        int put(int letter, int key) {
            if (!letter(letter) || !key(key)) return -2;
            if (setting == null || fixed[letter] != -1) return -3;
            for (int l = 0; l < n; l++) if (setting[l] == key && fixed[l] != -1) return -3;
            setting = moved(setting, letter, key);
            return 1;
        }

        static int[] moved(int[] s, int letter, int key) {
            int[] t = s.clone();
            for (int l = 0; l < s.length; l++) if (s[l] == key) t[l] = s[letter];
            t[letter] = key;
            return t;
        }

        int at(int letter) { return !letter(letter) ? -2 : setting == null ? -3 : setting[letter]; }

        long[][] weights() {
            long[][] o = new long[n][n];
            for (int a = 0; a < n; a++) for (int b = 0; b < n; b++) o[a][b] = oftenOf(a, b);
            return o;
        }

        long[][] ways() {
            int m = keys.size();
            long[][] c = new long[m][m];
            for (int i = 0; i < m; i++) for (int k = 0; k < m; k++) c[i][k] = costOf(i, k);
            return c;
        }

        static long price(int[] s, int placed, long[][] o, long[][] c, int only) {
            long sum = 0;
            for (int a = 0; a < placed; a++)
                for (int b = 0; b < placed; b++)
                    if (a != b && (only < 0 || a == only || b == only)) sum += o[a][b] * c[s[a]][s[b]];
            return sum;
        }

        long all() { return setting == null ? -3 : price(setting, n, weights(), ways(), -1); }

        long share(int letter) {
            if (!letter(letter)) return -2;
            return setting == null ? -3 : price(setting, n, weights(), ways(), letter);
        }

        int better() {
            if (setting == null) return -3;
            long[][] o = weights();
            long[][] c = ways();
            for (int done = 0; ; done++) {
                List<int[]> changed = new ArrayList<>();
                for (int a = 0; a < n; a++)
                    for (int b = a + 1; b < n; b++)
                        if (fixed[a] == -1 && fixed[b] == -1) changed.add(moved(setting, a, setting[b]));
                for (int a = 0; a < n; a++)
                    for (int k = 0; k < keys.size(); k++)
                        if (fixed[a] == -1 && !bears(setting, n, k)) changed.add(moved(setting, a, k));
                int[] best = setting;
                for (int[] s : changed)
                    if (price(s, n, o, c, -1) < price(best, n, o, c, -1)) best = s;
                if (best == setting) return done;
                setting = best;
            }
        }

        long change(int a, int b) {
            if (!letter(a) || !letter(b) || a == b) return 1000000000L;
            if (setting == null || fixed[a] != -1 || fixed[b] != -1) return 1000000001L;
            return price(moved(setting, a, setting[b]), n, weights(), ways(), -1)
                - price(setting, n, weights(), ways(), -1);
        }

        int search() {
            if (keys.size() < n) return -3;
            found = null;
            tries = 0;
            spent = false;
            place(new int[n], 0, weights(), ways());
            return spent ? -5 : 1;
        }

        void place(int[] s, int l, long[][] o, long[][] c) {
            if (l == n) {
                found = s.clone();
                foundCost = price(s, n, o, c, -1);
                return;
            }
            for (int k = 0; k < keys.size(); k++) {
                if (!mayBear(l, k) || bears(s, l, k)) continue;
                if (tries == 20000) spent = true;
                if (spent) return;
                tries++;
                s[l] = k;
                if (found == null || price(s, l + 1, o, c, -1) < foundCost) place(s, l + 1, o, c);
            }
        }

        long least() { return found == null ? -1 : foundCost; }

        int take() {
            if (found == null) return -3;
            setting = found.clone();
            return 1;
        }

        /** The least sum over all ways to give each row a column of its own, sets of columns as bits. */
        static long assign(long[][] table, int columns) {
            long[] best = new long[1 << columns];
            java.util.Arrays.fill(best, Long.MAX_VALUE);
            best[0] = 0;
            long least = Long.MAX_VALUE;
            for (int set = 0; set < best.length; set++) {
                int row = Integer.bitCount(set);
                if (best[set] == Long.MAX_VALUE || row > table.length) continue;
                if (row == table.length) {
                    least = Math.min(least, best[set]);
                    continue;
                }
                for (int k = 0; k < columns; k++) {
                    if ((set & 1 << k) != 0 || table[row][k] < 0) continue;
                    int next = set | 1 << k;
                    best[next] = Math.min(best[next], best[set] + table[row][k]);
                }
            }
            return least;
        }

        long priceOf(int letter, int key, long[][] o, long[][] c) {
            long[][] table = new long[n - 1][keys.size()];
            int row = 0;
            for (int l = 0; l < n; l++) {
                if (l == letter) continue;
                for (int k = 0; k < keys.size(); k++) table[row][k] = k == key ? -1 : o[letter][l] * c[key][k];
                row++;
            }
            return assign(table, keys.size());
        }

        long bound() {
            if (keys.size() < n) return -3;
            long[][] o = weights();
            long[][] c = ways();
            long[][] table = new long[n][keys.size()];
            for (int l = 0; l < n; l++)
                for (int k = 0; k < keys.size(); k++) table[l][k] = mayBear(l, k) ? priceOf(l, k, o, c) : -1;
            return assign(table, keys.size());
        }

        long price(int letter, int key) {
            if (!letter(letter) || !key(key)) return -2;
            return keys.size() < n ? -3 : priceOf(letter, key, weights(), ways());
        }

        int turns() {
            if (keys.size() > 7 || keys.isEmpty()) return -3;
            List<int[]> all = new ArrayList<>();
            orders(new int[keys.size()], 0, all);
            return all.size();
        }

        void orders(int[] t, int i, List<int[]> all) {
            if (i == t.length) {
                if (isTurn(t)) all.add(t.clone());
                return;
            }
            for (int k = 0; k < t.length; k++) {
                if (bears(t, i, k)) continue;
                t[i] = k;
                orders(t, i + 1, all);
            }
        }

        boolean isTurn(int[] t) {
            for (int i = 0; i < t.length; i++) {
                if (!java.util.Arrays.equals(keys.get(i), keys.get(t[i]))) return false;
                for (int k = 0; k < t.length; k++) if (goings[i][k] != goings[t[i]][t[k]]) return false;
            }
            return true;
        }

        int alike() {
            if (setting == null || found == null || keys.size() > 7) return -3;
            List<int[]> all = new ArrayList<>();
            orders(new int[keys.size()], 0, all);
            for (int[] t : all) {
                boolean same = true;
                for (int l = 0; l < n; l++) same &= t[setting[l]] == found[l];
                if (same) return 1;
            }
            return 0;
        }

        int count(int what) {
            int sum = 0;
            switch (what) {
                case 0: return n;
                case 1: return keys.size();
                case 2: for (StringBuilder p : pages) sum += p == null ? 0 : 1; return sum;
                case 3: for (StringBuilder p : pages) sum += p == null ? 0 : p.length(); return sum;
                case 4: for (long[] row : weights()) for (long o : row) sum += (int) o; return sum;
                case 5: for (int f : fixed) sum += f == -1 ? 0 : 1; return sum;
                case 6: return setting == null ? 0 : 1;
                default: return -2;
            }
        }

        long digest() {
            List<Long> all = new ArrayList<>();
            for (int what = 0; what <= 6; what++) all.add((long) count(what));
            for (long[] row : weights()) for (long o : row) all.add(o);
            for (long[] row : ways()) for (long c : row) all.add(c);
            if (setting != null) for (int k : setting) all.add((long) k);
            all.add(least());
            long h = 59;
            for (long v : all) h = 31 * h + v;
            return h;
        }
    }

    private static final String[] CALLS = {"letters", "feed", "tear", "often", "key", "go", "cost", "body", "fix",
        "first", "put", "at", "all", "share", "better", "change", "search", "least", "take", "tries", "bound",
        "price", "turns", "alike", "count", "digest"};

    private static long callModel(Model m, int call, int a, int b, int c, long w) {
        switch (CALLS[call]) {
            case "letters": return m.letters(a);
            case "feed": return m.feed(a, w, b);
            case "tear": return m.tear(a);
            case "often": return m.often(a, b);
            case "key": return m.newKey(a, b);
            case "go": return m.go(a, b, c);
            case "cost": return m.cost(a, b);
            case "body": return m.body(a);
            case "fix": return m.fix(a, b);
            case "first": return m.first();
            case "put": return m.put(a, b);
            case "at": return m.at(a);
            case "all": return m.all();
            case "share": return m.share(a);
            case "better": return m.better();
            case "change": return m.change(a, b);
            case "search": return m.search();
            case "least": return m.least();
            case "take": return m.take();
            case "tries": return m.tries;
            case "bound": return m.bound();
            case "price": return m.price(a, b);
            case "turns": return m.turns();
            case "alike": return m.alike();
            case "count": return m.count(a);
            default: return m.digest();
        }
    }

    private static long callProgram(KeySetter x, int call, int a, int b, int c, long w) {
        switch (CALLS[call]) {
            case "letters": return x.letters(a);
            case "feed": return x.feed(a, w, b);
            case "tear": return x.tear(a);
            case "often": return x.often(a, b);
            case "key": return x.key(a, b);
            case "go": return x.go(a, b, c);
            case "cost": return x.cost(a, b);
            case "body": return x.body(a);
            case "fix": return x.fix(a, b);
            case "first": return x.first();
            case "put": return x.put(a, b);
            case "at": return x.at(a);
            case "all": return x.all();
            case "share": return x.share(a);
            case "better": return x.better();
            case "change": return x.change(a, b);
            case "search": return x.search();
            case "least": return x.least();
            case "take": return x.take();
            case "tries": return x.tries();
            case "bound": return x.bound();
            case "price": return x.price(a, b);
            case "turns": return x.turns();
            case "alike": return x.alike();
            case "count": return x.count(a);
            default: return x.digest();
        }
    }

    private static int callNamed(String name) {
        for (int i = 0; i < CALLS.length; i++) if (CALLS[i].equals(name)) return i;
        throw new IllegalStateException(name);
    }

    /** One object of the program and its model, and the dice for their calls. */
    private static final class Pair {
        final int run;
        final KeySetter x = new KeySetter();
        final Model m = new Model();
        final Random dice;
        final int numbers;
        final StringBuilder story = new StringBuilder();

        Pair(int run, int numbers) {
            this.run = run;
            this.numbers = numbers;
            dice = new Random(run);
        }

        void call(String name, int a, int b, int c, long w) {
            int call = callNamed(name);
            String told = name + "(" + a + ", " + b + ", " + c + ", " + w + ")";
            story.append(told).append("; ");
            long want = callModel(m, call, a, b, c, w);
            long got = callProgram(x, call, a, b, c, w);
            compared++;
            if (got != want) {
                wrong++;
                if (wrong <= 5) {
                    System.out.println("run " + run + ": " + told + " answered " + got + ", due is " + want
                        + " after " + story);
                }
            }
        }

        long signs(int letters) {
            long w = 0;
            for (int i = 0; i < 8; i++) {
                int sign = dice.nextInt(6) == 0 ? dice.nextInt(256) : 'a' + dice.nextInt(letters);
                w = w << 8 | sign;
            }
            return w;
        }

        int odd(int usual) {
            int[] edges = {-1, 0, 1, 5, 6, 7, 9, 10, 11, 12, 300, 1000, 1001, -2, Integer.MAX_VALUE, Integer.MIN_VALUE};
            return dice.nextInt(12) == 0 ? edges[dice.nextInt(edges.length)] : usual;
        }

        int someLetter() { return odd(dice.nextInt(m.n)); }
        int someKey() { return odd(m.keys.isEmpty() ? 0 : dice.nextInt(m.keys.size())); }

        void setUp(int letters, int keys, int feeds, int kinds) {
            call("letters", letters, 0, 0, 0);
            for (int i = 0; i < feeds; i++) call("feed", dice.nextInt(6), 1 + dice.nextInt(8), 0, signs(letters));
            for (int k = 0; k < keys; k++) call("key", dice.nextInt(kinds), dice.nextInt(2) * dice.nextInt(numbers), 0, 0);
            for (int i = 0; i < keys; i++)
                for (int k = 0; k < keys; k++) call("go", i, k, dice.nextInt(numbers), 0);
        }

        void randomCall() {
            String name = CALLS[dice.nextInt(CALLS.length)];
            if (name.equals("letters") && dice.nextInt(4) != 0) name = "first";
            if (name.equals("key") && dice.nextInt(3) != 0) name = "take";
            int a = 0;
            int b = 0;
            int c = odd(dice.nextInt(numbers));
            switch (name) {
                case "letters": a = odd(1 + dice.nextInt(10)); break;
                case "feed": a = odd(dice.nextInt(6)); b = odd(1 + dice.nextInt(8)); break;
                case "tear": a = odd(dice.nextInt(6)); break;
                case "often": case "change": a = someLetter(); b = someLetter(); break;
                case "key": a = odd(dice.nextInt(4)); b = odd(dice.nextInt(numbers)); break;
                case "go": case "cost": a = someKey(); b = someKey(); break;
                case "body": a = odd(dice.nextInt(4)); break;
                case "fix": a = someLetter(); b = dice.nextInt(2) == 0 ? -1 : someKey(); break;
                case "put": case "price": a = someLetter(); b = someKey(); break;
                case "at": case "share": a = someLetter(); break;
                case "count": a = odd(dice.nextInt(7)); break;
                default: break;
            }
            call(name, a, b, c, signs(m.n));
            call("digest", 0, 0, 0, 0);
            call("tries", 0, 0, 0, 0);
            call("body", dice.nextInt(3), 0, 0, 0);
        }
    }

    private static void runOf(int run, int letters, int keys, int feeds, int numbers, int kinds) {
        Pair p = new Pair(run, numbers);
        p.setUp(letters, keys, feeds, kinds);
        for (String name : new String[] {"first", "better", "search", "alike", "turns", "bound", "take", "better", "alike"})
            p.call(name, 0, 0, 0, 0);
        for (int i = 0; i < 60; i++) p.randomCall();
    }

    public static void main(String[] args) {
        Random sizes = new Random(59);
        for (int run = 1; run <= 400; run++) {
            int letters = 1 + sizes.nextInt(6);
            int keys = Math.min(12, letters + sizes.nextInt(3));
            runOf(run, letters, keys, sizes.nextInt(12), 1 + sizes.nextInt(4), 1 + sizes.nextInt(4));
        }
        for (int run = 401; run <= 520; run++) {
            int letters = 5 + sizes.nextInt(6);
            int keys = Math.min(12, letters + sizes.nextInt(4));
            runOf(run, letters, keys, sizes.nextInt(60), 1001, 4);
        }
        System.out.println(wrong == 0 ? compared + " answers are as the model's" : wrong + " answers are not as the model's");
        if (wrong != 0) System.exit(1);
    }
}
