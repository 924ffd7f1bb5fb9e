/** Each promise of the document by cases worked out by hand: ordinary ones, edges and wrong inputs. */
public final class PromiseTest {
    private static final int NONE = -1, BAD = -2, NO = -3, FULL = -4, SPENT = -5;
    private static final int[] WRONG = {-1, -2, 12, 13, 1001, Integer.MAX_VALUE, Integer.MIN_VALUE};
    private static int wrong = 0;
    private static int promise = 0;

    private static void due(String what, long got, long want) {
        if (got != want) {
            wrong++;
            System.out.println("promise " + promise + ": " + what + " answered " + got + ", due is " + want);
        }
    }

    private static void feedText(KeySetter x, int page, String text) {
        for (int i = 0; i < text.length(); i++) x.feed(page, text.charAt(i), 1);
    }

    /** n LETTERS, a page 0 of this text, and as many PLAIN KEYS as the rows of GO. */
    private static KeySetter plain(int n, String text, int[][] go) {
        KeySetter x = new KeySetter();
        x.letters(n);
        feedText(x, 0, text);
        for (int i = 0; i < go.length; i++) x.key(0, 0);
        for (int i = 0; i < go.length; i++) for (int k = 0; k < go.length; k++) x.go(i, k, go[i][k]);
        return x;
    }

    private static KeySetter plain(int n, String text, int keys) {
        return plain(n, text, new int[keys][keys]);
    }

    private static void dueAt(String when, KeySetter x, int... keys) {
        for (int l = 0; l < keys.length; l++) due("at(" + l + ") " + when, x.at(l), keys[l]);
    }

    private static long mixed(long... values) {
        long h = 59;
        for (long v : values) h = 31 * h + v;
        return h;
    }

    private static void newObject() {
        KeySetter x = new KeySetter();
        due("count(0)", x.count(0), 6);
        for (int what = 1; what <= 6; what++) due("count(" + what + ")", x.count(what), 0);
        due("at(5)", x.at(5), NO);
        due("at(6)", x.at(6), BAD);
        due("all()", x.all(), NO);
        due("least()", x.least(), -1);
        due("tries()", x.tries(), 0);
        due("body(0)", x.body(0), NONE);
        due("take()", x.take(), NO);
        for (int page = 0; page < 6; page++) due("tear", x.tear(page), NO);
    }

    private static void letters() {
        KeySetter x = new KeySetter();
        due("letters(10)", x.letters(10), 6);
        due("letters(1)", x.letters(1), 10);
        due("letters(1)", x.letters(1), 1);
        for (int n : new int[] {0, 11, -1, Integer.MAX_VALUE, Integer.MIN_VALUE}) due("letters(" + n + ")", x.letters(n), BAD);
        due("letters stay after BAD", x.count(0), 1);

        x = plain(3, "abgj", 4);
        x.fix(0, 2);
        x.first();
        x.search();
        due("letters(11)", x.letters(11), BAD);
        due("BAD keeps the SETTING", x.at(0), 2);
        due("BAD keeps what is FIXED", x.count(5), 1);
        due("BAD keeps what was FOUND", x.least(), 0);
        due("letters(3)", x.letters(3), 3);
        due("the SETTING went", x.at(0), NO);
        due("nothing is FIXED", x.count(5), 0);
        due("the KEY is free again", x.fix(1, 2), NONE);
        due("the other was not FIXED", x.fix(0, NONE), NONE);
        due("what was FOUND went", x.least(), -1);
        due("what was FOUND went", x.take(), NO);
        due("KEYS stay", x.count(1), 4);
        due("signs stay", x.count(3), 4);
        due("g and j are none", x.count(4), 1);
        x.letters(10);
        due("g and j are LETTERS now", x.often(6, 9), 1);
        due("pairs ab, bg, gj", x.count(4), 3);
        x.letters(1);
        due("only a", x.count(4), 0);
    }

    private static void feed() {
        KeySetter x = new KeySetter();
        due("feed 2", x.feed(0, ((long) 'c' << 16) | ('a' << 8) | 'b', 2), 2);
        due("the highest first", x.often(0, 1), 1);
        due("no more than these", x.often(2, 0), 0);
        due("feed 1", x.feed(0, 'c', 1), 3);
        due("signs join what was there", x.often(1, 2), 1);
        due("feed 8", x.feed(5, 0x6162636465666162L, 8), 8);
        due("from the top byte on", x.often(0, 1), 3);
        due("ef", x.often(4, 5), 1);
        due("feed with w below 0", x.feed(1, -1L, 8), 8);
        due("count(2)", x.count(2), 3);
        due("count(3)", x.count(3), 19);
        due("PAGES do not join", x.count(4), 9);
        for (int page : new int[] {-1, 6, Integer.MAX_VALUE, Integer.MIN_VALUE}) due("page " + page, x.feed(page, 'a', 1), BAD);
        for (int n : new int[] {0, 9, -1, Integer.MAX_VALUE, Integer.MIN_VALUE}) due("n " + n, x.feed(2, 'a', n), BAD);
        due("BAD makes no PAGE", x.count(2), 3);

        x = new KeySetter();
        for (int i = 1; i <= 37; i++) due("feed", x.feed(3, 0x6161616161616161L, 8), 8 * i);
        x.letters(1);
        x.key(0, 0);
        x.search();
        due("301 signs", x.feed(3, 0, 5), FULL);
        due("BAD is ahead of FULL", x.feed(3, 0, 9), BAD);
        due("FULL keeps the PAGE", x.count(3), 296);
        due("FULL and BAD keep what was FOUND", x.least(), 0);
        due("300 signs", x.feed(3, 0x61616161L, 4), 300);
        due("what was FOUND went", x.least(), -1);
        due("one more", x.feed(3, 'a', 1), FULL);
        due("another PAGE has room", x.feed(4, 'a', 1), 1);
        due("aa", x.often(0, 0), 299);
    }

    private static void tear() {
        KeySetter x = plain(2, "abab", 2);
        feedText(x, 1, "ba");
        x.first();
        x.search();
        due("tear(2)", x.tear(2), NO);
        for (int page : new int[] {-1, 6, Integer.MAX_VALUE, Integer.MIN_VALUE}) due("tear(" + page + ")", x.tear(page), BAD);
        due("refused: FOUND stays", x.least(), 0);
        due("tear(0)", x.tear(0), 4);
        due("what was FOUND went", x.least(), -1);
        due("the SETTING stays", x.at(1), 1);
        due("ab", x.often(0, 1), 0);
        due("ba", x.often(1, 0), 1);
        due("PAGES", x.count(2), 1);
        due("signs", x.count(3), 2);
        due("tear(0) again", x.tear(0), NO);
        due("feed anew", x.feed(0, 'b', 1), 1);
        due("old signs do not count", x.count(4), 1);
    }

    private static void often() {
        KeySetter x = new KeySetter();
        x.letters(3);
        feedText(x, 0, "aab a-bABcbcd");
        x.feed(0, 'a' + 256, 1);
        due("aa", x.often(0, 0), 1);
        due("ab", x.often(0, 1), 1);
        due("bc", x.often(1, 2), 1);
        due("cb", x.often(2, 1), 1);
        due("ba", x.often(1, 0), 0);
        due("d is none", x.often(2, 3), BAD);
        due("cd is no pair", x.count(4), 4);
        for (int a : new int[] {-1, 3, 10, Integer.MAX_VALUE, Integer.MIN_VALUE}) {
            due("often(" + a + ", 0)", x.often(a, 0), BAD);
            due("often(0, " + a + ")", x.often(0, a), BAD);
        }
        x.letters(10);
        x.feed(1, 0x60616A6B6AE1E200L, 8);
        due("only a .. j are LETTERS", x.count(4), 4 + 2 + 1);
        due("aj", x.often(0, 9), 1);
        due("cd", x.often(2, 3), 1);
    }

    private static void key() {
        KeySetter x = new KeySetter();
        for (int kind : new int[] {-1, 4, Integer.MAX_VALUE, Integer.MIN_VALUE}) due("kind " + kind, x.key(kind, 0), BAD);
        for (int extra : new int[] {-1, 1001, Integer.MAX_VALUE, Integer.MIN_VALUE}) due("extra " + extra, x.key(0, extra), BAD);
        due("BAD makes none", x.count(1), 0);
        for (int k = 0; k < 12; k++) due("key", x.key(k % 4, k % 2 * 1000), k);
        due("a thirteenth", x.key(0, 0), FULL);
        due("BAD is ahead of FULL", x.key(4, 0), BAD);
        due("twelve", x.count(1), 12);

        x = plain(1, "", 11);
        x.first();
        x.search();
        x.key(4, 0);
        due("BAD keeps what was FOUND", x.least(), 0);
        x.key(3, 1000);
        due("what was FOUND went", x.least(), -1);
        due("the SETTING stays", x.at(0), 0);
        due("a new KEY's GO is 0", x.cost(0, 11), 2000);
        x.search();
        due("a thirteenth", x.key(0, 0), FULL);
        due("FULL keeps what was FOUND", x.least(), 0);
    }

    private static void go() {
        KeySetter x = plain(1, "", 2);
        due("go", x.go(0, 1, 1000), 0);
        due("go again", x.go(0, 1, 0), 1000);
        due("of a KEY to itself", x.go(1, 1, 7), 0);
        due("the other way is another", x.go(1, 0, 3), 0);
        due("it stands", x.cost(1, 1), 7);
        x.first();
        x.search();
        for (int i : new int[] {-1, 2, 12, Integer.MAX_VALUE, Integer.MIN_VALUE}) {
            due("go from " + i, x.go(i, 0, 1), BAD);
            due("go to " + i, x.go(0, i, 1), BAD);
        }
        for (int c : new int[] {-1, 1001, Integer.MAX_VALUE, Integer.MIN_VALUE}) due("c " + c, x.go(0, 0, c), BAD);
        due("BAD keeps GO", x.cost(0, 0), 0);
        due("BAD keeps what was FOUND", x.least(), 0);
        due("go", x.go(1, 0, 3), 3);
        due("what was FOUND went", x.least(), -1);
        due("the SETTING stays", x.at(0), 0);
    }

    private static KeySetter fourKinds() {
        KeySetter x = new KeySetter();
        x.key(0, 50);
        x.key(1, 60);
        x.key(2, 70);
        x.key(3, 80);
        for (int k = 0; k < 4; k++) x.go(0, k, 7);
        return x;
    }

    private static void cost() {
        KeySetter x = fourKinds();
        due("PLAIN", x.cost(0, 0), 7);
        due("HOME is cut", x.cost(0, 1), 3);
        due("BAD", x.cost(0, 2), 77);
        due("WORSE", x.cost(0, 3), 174);
        due("by the KIND of the second", x.cost(3, 0), 0);
        due("from WORSE to BAD", x.cost(3, 2), 70);
        x.go(3, 3, 1000);
        due("a KEY to itself", x.cost(3, 3), 2160);
        for (int i : new int[] {-1, 4, 12, Integer.MAX_VALUE, Integer.MIN_VALUE}) {
            due("cost(" + i + ", 0)", x.cost(i, 0), BAD);
            due("cost(0, " + i + ")", x.cost(0, i), BAD);
        }
        x = new KeySetter();
        due("without KEYS", x.cost(0, 0), BAD);
    }

    private static void dueBodies(KeySetter x, int... bodies) {
        for (int i = 0; i < bodies.length; i++) due("body(" + i + ")", x.body(i), bodies[i]);
        due("body(" + bodies.length + ")", x.body(bodies.length), NONE);
    }

    private static void body() {
        KeySetter x = fourKinds();
        dueBodies(x);
        x.cost(0, 3);
        dueBodies(x, 4, 3, 1);
        x.cost(3, 0);
        dueBodies(x, 1);
        x.cost(0, 2);
        dueBodies(x, 3, 1);
        x.cost(3, 1);
        dueBodies(x, 2, 1);
        x.cost(4, 0);
        x.cost(0, 4);
        dueBodies(x, 2, 1);
        x.letters(2);
        x.feed(0, 0x6162, 2);
        x.go(0, 1, 9);
        x.first();
        x.all();
        x.better();
        x.search();
        x.bound();
        x.price(0, 0);
        x.digest();
        x.key(3, 3);
        dueBodies(x, 2, 1);
        for (int i : new int[] {-1, 3, Integer.MAX_VALUE, Integer.MIN_VALUE}) due("body(" + i + ")", x.body(i), NONE);
    }

    private static void fix() {
        KeySetter x = plain(3, "", 4);
        due("fix(0, 3)", x.fix(0, 3), NONE);
        due("fix(0, 3) again", x.fix(0, 3), 3);
        due("fix(1, 3)", x.fix(1, 3), NO);
        due("fix(0, 1)", x.fix(0, 1), 3);
        due("3 is free again", x.fix(1, 3), NONE);
        due("two", x.count(5), 2);
        due("fix(0, NONE)", x.fix(0, NONE), 1);
        due("fix(0, NONE) again", x.fix(0, NONE), NONE);
        due("one", x.count(5), 1);
        x.first();
        x.search();
        for (int i : new int[] {-2, 4, 12, Integer.MAX_VALUE, Integer.MIN_VALUE}) {
            due("letter " + i, x.fix(i, 3), BAD);
            due("key " + i, x.fix(0, i), BAD);
        }
        due("letter -1", x.fix(-1, NONE), BAD);
        due("letter 3", x.fix(3, NONE), BAD);
        due("fix(2, 3)", x.fix(2, 3), NO);
        due("refused: the SETTING stays", x.at(1), 3);
        due("refused: FOUND stays", x.least(), 0);
        due("fix(1, 3)", x.fix(1, 3), 3);
        due("the SETTING went", x.at(1), NO);
        due("what was FOUND went", x.least(), -1);
        x.first();
        x.search();
        due("fix(0, NONE)", x.fix(0, NONE), NONE);
        due("the SETTING went", x.count(6), 0);
        due("what was FOUND went", x.take(), NO);
        x = new KeySetter();
        x.key(0, 0);
        due("with fewer KEYS than LETTERS", x.fix(5, 0), NONE);
    }

    private static void first() {
        KeySetter x = plain(3, "", 2);
        due("too few KEYS", x.first(), NO);
        x.key(0, 0);
        due("as many", x.first(), 1);
        dueAt("in order", x, 0, 1, 2);
        x.key(0, 0);
        x.key(0, 0);
        x.fix(1, 0);
        x.first();
        dueAt("with b FIXED", x, 1, 0, 2);
        x.fix(2, 1);
        x.first();
        dueAt("with b, c FIXED", x, 2, 0, 1);
        x.put(0, 4);
        x.first();
        dueAt("anew", x, 2, 0, 1);
        x.search();
        x.first();
        due("FOUND stays", x.least(), 0);
        x = plain(3, "", 3);
        x.fix(0, 2);
        x.first();
        dueAt("with a FIXED on the last", x, 2, 0, 1);
    }

    private static void put() {
        KeySetter x = plain(3, "", 4);
        due("no SETTING", x.put(0, 0), NO);
        x.first();
        due("put(0, 2)", x.put(0, 2), 1);
        dueAt("after an exchange", x, 2, 1, 0);
        due("put(1, 3)", x.put(1, 3), 1);
        dueAt("after a going", x, 2, 3, 0);
        due("put(1, 3)", x.put(1, 3), 1);
        dueAt("after none", x, 2, 3, 0);
        x.search();
        x.put(0, 1);
        due("FOUND stays", x.least(), 0);
        x.fix(1, 2);
        due("no SETTING", x.put(0, 0), NO);
        x.first();
        dueAt("with b FIXED", x, 0, 2, 1);
        due("what is FIXED", x.put(1, 3), NO);
        due("what is FIXED, where it is", x.put(1, 2), NO);
        due("where one is FIXED", x.put(0, 2), NO);
        dueAt("after NO", x, 0, 2, 1);
        for (int i : new int[] {-1, 4, 12, Integer.MAX_VALUE, Integer.MIN_VALUE}) {
            due("letter " + i, x.put(i, 0), BAD);
            due("key " + i, x.put(0, i), BAD);
        }
        due("letter 3", x.put(3, 0), BAD);
        due("BAD is ahead of NO", x.put(1, 4), BAD);
    }

    private static void at() {
        KeySetter x = plain(2, "", 3);
        due("no SETTING", x.at(1), NO);
        due("BAD is ahead of NO", x.at(2), BAD);
        x.first();
        x.put(1, 2);
        dueAt("after a put", x, 0, 2);
        for (int l : new int[] {-1, 2, 10, Integer.MAX_VALUE, Integer.MIN_VALUE}) due("at(" + l + ")", x.at(l), BAD);
        x.key(0, 0);
        x.feed(0, 0x61, 1);
        x.tear(0);
        x.go(0, 0, 1);
        dueAt("after what does not touch it", x, 0, 2);
    }

    // ab 2 times, ba 1, bc 1, ca 1, aa 1
    private static final String TEXT = "abcaab";
    private static final int[][] WAYS = {{9, 1, 2}, {3, 9, 4}, {5, 6, 9}};

    private static void all() {
        KeySetter x = plain(3, TEXT, WAYS);
        due("no SETTING", x.all(), NO);
        x.first();
        // ab 2 * 1, bc 1 * 4, ca 1 * 5; aa is not of two unlike LETTERS
        due("all()", x.all(), 11);
        x.put(0, 1);
        // ab 2 * 3, bc 1 * 2, ca 1 * 6
        due("all()", x.all(), 14);
        x.tear(0);
        due("without PAGES", x.all(), 0);
        x = plain(1, "aaa", new int[][] {{1000}});
        x.first();
        due("one LETTER", x.all(), 0);
        x = plain(2, "", 2);
        for (int page = 0; page < 6; page++) for (int i = 0; i < 37; i++) x.feed(page, 0x6162616261626162L, 8);
        x.key(3, 1000);
        x.key(3, 1000);
        x.go(2, 3, 1000);
        x.go(3, 2, 1000);
        x.first();
        x.put(0, 2);
        x.put(1, 3);
        due("dear ones", x.all(), 6L * 295 * 4000);
    }

    private static void share() {
        KeySetter x = plain(3, TEXT, WAYS);
        due("no SETTING", x.share(0), NO);
        due("BAD is ahead of NO", x.share(3), BAD);
        x.first();
        due("a: ab and ca", x.share(0), 7);
        due("b: ab and bc", x.share(1), 6);
        due("c: bc and ca", x.share(2), 9);
        for (int l : new int[] {-1, 3, 10, Integer.MAX_VALUE, Integer.MIN_VALUE}) due("share(" + l + ")", x.share(l), BAD);
    }

    private static void better() {
        KeySetter x = plain(2, "ab", new int[][] {{0, 10, 4}, {4, 0, 4}, {4, 4, 0}});
        due("no SETTING", x.better(), NO);
        x.first();
        due("an exchange is ahead of goings", x.better(), 1);
        dueAt("exchanged", x, 1, 0);
        due("none lessens it", x.better(), 0);

        x = plain(2, "ab", new int[][] {{0, 10, 4}, {10, 0, 4}, {4, 4, 0}});
        x.first();
        due("the lesser LETTER goes first", x.better(), 1);
        dueAt("a went", x, 2, 1);

        x = plain(2, "ab", new int[][] {{0, 10, 9, 9}, {10, 0, 9, 9}, {9, 4, 0, 9}, {9, 4, 9, 0}});
        x.first();
        due("the lesser KEY first", x.better(), 1);
        dueAt("a went to 2", x, 2, 1);

        x = plain(2, "ab", new int[][] {{0, 10, 4}, {6, 0, 4}, {5, 5, 0}});
        x.first();
        due("that which lessens most", x.better(), 1);
        dueAt("b went", x, 0, 2);

        x = plain(2, "ab", new int[][] {{0, 10, 9}, {8, 0, 1}, {9, 9, 0}});
        x.first();
        due("again and again", x.better(), 2);
        dueAt("exchanged, then b went", x, 1, 2);

        x = plain(2, "ab", new int[][] {{0, 10, 9}, {1, 0, 1}, {1, 1, 0}});
        x.fix(0, 0);
        x.first();
        due("a is FIXED", x.better(), 1);
        dueAt("only b went", x, 0, 2);
        x.fix(1, 1);
        x.first();
        due("both are FIXED", x.better(), 0);
        dueAt("none went", x, 0, 1);

        // ab, cd cheaper when a, b and c, d exchange: of like ones a, b first
        x = plain(4, "ab cd", new int[][] {{0, 5, 9, 9}, {3, 0, 9, 9}, {9, 9, 0, 5}, {9, 9, 3, 0}});
        x.first();
        due("two exchanges", x.better(), 2);
        dueAt("both done", x, 1, 0, 3, 2);

        x = plain(2, "ab", new int[][] {{0, 10}, {4, 0}});
        x.search();
        x.first();
        x.better();
        due("FOUND stays", x.least(), 4);
    }

    private static void change() {
        KeySetter x = plain(3, TEXT, WAYS);
        due("no SETTING", x.change(0, 1), 1000000001L);
        due("BAD is ahead of NO", x.change(1, 1), 1000000000L);
        x.first();
        due("change(0, 1)", x.change(0, 1), 3);
        due("change(1, 0)", x.change(1, 0), 3);
        // ab 2 * 6, bc 3, ca 2 instead of 11
        due("change(0, 2)", x.change(0, 2), 6);
        // ab 2 * 2, bc 6, ca 3 instead of 11
        due("change(1, 2)", x.change(1, 2), 2);
        due("nothing is done", x.all(), 11);
        for (int l : new int[] {-1, 3, 10, Integer.MAX_VALUE, Integer.MIN_VALUE}) {
            due("change(" + l + ", 0)", x.change(l, 0), 1000000000L);
            due("change(0, " + l + ")", x.change(0, l), 1000000000L);
        }
        x.put(0, 1);
        due("it may lessen it", x.change(0, 1), -3);
        x.fix(2, 2);
        x.first();
        due("one is FIXED", x.change(0, 2), 1000000001L);
        due("one is FIXED", x.change(2, 1), 1000000001L);
        due("none is FIXED", x.change(1, 0), 3);
    }

    /** Five LETTERS on ten KEYS with numbers that a seed gives. */
    private static KeySetter seeded(long seed) {
        int[][] go = new int[10][10];
        long v = seed;
        for (int i = 0; i < 10; i++) {
            for (int k = 0; k < 10; k++) {
                v = (v * 1103515245L + 12345) & 0x7fffffffL;
                go[i][k] = (int) ((v >> 16) % 1001);
            }
        }
        return plain(5, "abcdecaebd", go);
    }

    private static void search() {
        KeySetter x = plain(2, "ab", 1);
        due("too few KEYS", x.search(), NO);
        x = plain(2, "ab", new int[][] {{0, 5}, {3, 0}});
        due("search()", x.search(), 1);
        due("tries", x.tries(), 4);
        due("least", x.least(), 3);
        x.take();
        dueAt("the least", x, 1, 0);
        x.go(1, 0, 5);
        x.search();
        x.take();
        dueAt("the first of like ones", x, 0, 1);

        x = plain(2, "", 2);
        x.search();
        due("b is not placed if a is not below", x.tries(), 3);

        x = plain(2, "ab", new int[][] {{0, 5, 1}, {3, 0, 0}, {2, 2, 0}});
        x.fix(1, 0);
        x.search();
        due("a does not take b's KEY", x.tries(), 4);
        due("the least that keeps it", x.least(), 2);
        x.take();
        dueAt("with b FIXED", x, 2, 0);

        x = plain(3, "ab", new int[][] {{0, 5, 5}, {5, 0, 5}, {5, 5, 0}});
        x.search();
        // a three times, b six times, and c only at first, when nothing is FOUND
        due("a like COST does not go on", x.tries(), 3 + 6 + 1);

        x = plain(7, "fg", 12);
        for (int i = 0; i < 12; i++) for (int k = 0; k < 12; k++) x.go(i, k, 500 + i + k);
        due("SPENT", x.search(), SPENT);
        due("tries when SPENT", x.tries(), 20000);
        // a, b stay on 0, 1 for as long as that; f, g cost least on 2, 3
        due("what it FOUND by then", x.least(), 505);
        due("stays FOUND", x.take(), 1);
        dueAt("when SPENT", x, 0, 1, 4, 5, 6, 2, 3);

        x = seeded(1278386);
        due("20000 tries are not SPENT", x.search(), 1);
        due("tries", x.tries(), 20000);
        due("least", x.least(), 2631);
        x = seeded(931780);
        due("20001 tries are SPENT", x.search(), SPENT);
        due("tries", x.tries(), 20000);
        due("least", x.least(), 2493);
        due("again", x.search(), SPENT);
        due("tries", x.tries(), 20000);
        x.fix(0, 0);
        due("with less to do", x.search(), 1);
    }

    private static void least() {
        KeySetter x = plain(2, "ab", new int[][] {{0, 5}, {3, 0}});
        due("before any", x.least(), -1);
        x.search();
        due("least", x.least(), 3);
        x.first();
        x.better();
        x.put(0, 0);
        x.take();
        x.turns();
        x.cost(0, 1);
        due("it stays", x.least(), 3);
        x.feed(5, 'z', 1);
        due("it went", x.least(), -1);
        x.search();
        due("found anew", x.least(), 3);
        x.letters(3);
        due("it went", x.least(), -1);
        due("search()", x.search(), NO);
        due("nothing", x.least(), -1);
    }

    private static void take() {
        KeySetter x = plain(2, "ab", new int[][] {{0, 5}, {3, 0}});
        due("nothing FOUND", x.take(), NO);
        due("no SETTING by that", x.count(6), 0);
        x.search();
        due("take", x.take(), 1);
        dueAt("taken", x, 1, 0);
        x.put(0, 0);
        due("FOUND is not the SETTING", x.take(), 1);
        dueAt("taken again", x, 1, 0);
        x.go(0, 0, 1);
        due("it went", x.take(), NO);
        dueAt("the SETTING stays", x, 1, 0);
    }

    private static void tries() {
        KeySetter x = plain(2, "ab", new int[][] {{0, 5}, {3, 0}});
        due("before any", x.tries(), 0);
        x.search();
        due("tries", x.tries(), 4);
        x.feed(0, 'b', 1);
        due("they stay as FOUND goes", x.tries(), 4);
        x.letters(3);
        x.search();
        due("a search() that is NO changes nothing", x.tries(), 4);
        x.letters(1);
        x.search();
        due("of the latest", x.tries(), 2);
    }

    // ab 2 times, ac 1, ba 1, ca 1
    private static final String STAR = "abaca b ab";
    private static final int[][] STAR_WAYS = {{0, 5, 1, 3}, {4, 0, 6, 2}, {7, 8, 0, 9}, {3, 3, 3, 0}};

    private static void bound() {
        KeySetter x = plain(3, STAR, new int[][] {{0, 0}, {0, 0}});
        due("too few KEYS", x.bound(), NO);
        x = plain(3, STAR, STAR_WAYS);
        // a: 2 * 1 + 3 = 5, 2 * 2 + 4 = 8, 2 * 7 + 8 = 22, 9; b and c: 1, 2, 7, 3; so 5 with 2 and 3
        due("bound", x.bound(), 10);
        x.fix(0, 1);
        // a 8, b and c of 1, 7, 3
        due("with a FIXED", x.bound(), 12);
        x.fix(1, 2);
        due("with a, b FIXED", x.bound(), 8 + 7 + 1);
        x.fix(0, NONE);
        // b 7; a 5 and c 2, a 8 and c 1, a 9 and c 1
        due("with b FIXED", x.bound(), 14);
        x.tear(0);
        due("without PAGES", x.bound(), 0);
        x = plain(1, "aa", new int[][] {{5}});
        due("one LETTER", x.bound(), 0);
    }

    private static void price() {
        KeySetter x = plain(3, STAR, new int[][] {{0, 0}, {0, 0}});
        due("too few KEYS", x.price(0, 0), NO);
        due("BAD is ahead of that", x.price(0, 2), BAD);
        x = plain(3, STAR, STAR_WAYS);
        int[] ofA = {5, 8, 22, 9};
        int[] ofB = {1, 2, 7, 3};
        for (int k = 0; k < 4; k++) {
            due("price(0, " + k + ")", x.price(0, k), ofA[k]);
            due("price(1, " + k + ")", x.price(1, k), ofB[k]);
            due("price(2, " + k + ")", x.price(2, k), ofB[k]);
        }
        x.fix(0, 2);
        x.fix(1, 3);
        due("FIXED is not looked at", x.price(0, 0), 5);
        due("FIXED is not looked at", x.price(2, 3), 3);
        for (int i : new int[] {-1, 4, 12, Integer.MAX_VALUE, Integer.MIN_VALUE}) {
            due("price(" + i + ", 0)", x.price(i, 0), BAD);
            due("price(0, " + i + ")", x.price(0, i), BAD);
        }
        due("price(3, 0)", x.price(3, 0), BAD);
        x.key(3, 0);
        due("THE COST, not GO, and the new KEY is free", x.price(0, 0), 0 * 2 + 1);
    }

    private static void turns() {
        KeySetter x = new KeySetter();
        due("no KEYS", x.turns(), NO);
        int due = 1;
        for (int k = 1; k <= 7; k++) {
            x.key(0, 0);
            due = due * k;
            due(k + " like KEYS", x.turns(), due);
        }
        x.key(0, 0);
        due("8 KEYS", x.turns(), NO);

        x = plain(6, "", new int[][] {{0, 1, 0}, {0, 0, 1}, {1, 0, 0}});
        due("a ring", x.turns(), 3);
        x = plain(6, "", new int[][] {{0, 1, 1}, {1, 0, 1}, {1, 1, 0}});
        due("all alike", x.turns(), 6);
        x.go(2, 2, 1);
        due("of one to itself", x.turns(), 2);
        x.go(0, 1, 2);
        due("one way is not the other", x.turns(), 1);

        x = new KeySetter();
        x.key(0, 3);
        x.key(0, 3);
        x.key(0, 4);
        x.key(0, 4);
        due("EXTRA of PLAIN ones, too", x.turns(), 4);
        x.key(1, 4);
        x.key(2, 4);
        x.key(3, 4);
        due("KINDS", x.turns(), 4);
    }

    private static void alike() {
        KeySetter x = plain(2, "ab", new int[][] {{0, 1, 0}, {0, 0, 1}, {1, 0, 0}});
        x.first();
        due("nothing FOUND", x.alike(), NO);
        x.search();
        // FOUND: a on 0, b on 2; the ring turns that to 1, 0 and 2, 1
        due("0, 1 against the ring", x.alike(), 0);
        x.put(0, 1);
        dueAt("turned", x, 1, 0);
        due("1, 0", x.alike(), 1);
        x.put(0, 2);
        x.put(1, 1);
        due("2, 1", x.alike(), 1);
        x.take();
        due("itself", x.alike(), 1);
        x.put(1, 1);
        due("0, 1", x.alike(), 0);
        x.fix(0, 0);
        x.search();
        due("no SETTING", x.alike(), NO);

        x = plain(1, "", 7);
        x.first();
        x.search();
        due("7 KEYS", x.alike(), 1);
        x.put(0, 6);
        due("7 KEYS", x.alike(), 1);
        x.go(6, 6, 1);
        x.search();
        due("the last is another", x.alike(), 0);
        x.key(0, 0);
        x.search();
        due("8 KEYS", x.alike(), NO);
    }

    private static void count() {
        KeySetter x = plain(3, "abcd aab", 4);
        feedText(x, 4, "ZZba");
        x.fix(2, 2);
        x.fix(1, 3);
        x.fix(1, NONE);
        x.fix(0, 0);
        x.first();
        int[] due = {3, 4, 2, 12, 5, 2, 1};
        for (int what = 0; what <= 6; what++) due("count(" + what + ")", x.count(what), due[what]);
        for (int what : new int[] {-1, 7, Integer.MAX_VALUE, Integer.MIN_VALUE}) due("count(" + what + ")", x.count(what), BAD);
    }

    private static void digest() {
        KeySetter x = new KeySetter();
        x.letters(2);
        due("bare", x.digest(), mixed(2, 0, 0, 0, 0, 0, 0, 0, 0, 0, 0, -1));
        feedText(x, 1, "aab");
        x.key(0, 0);
        x.key(3, 5);
        x.go(0, 0, 1);
        x.go(0, 1, 2);
        x.go(1, 0, 3);
        x.go(1, 1, 4);
        due("without a SETTING", x.digest(), mixed(2, 2, 1, 3, 2, 0, 0, 1, 1, 0, 0, 1, 14, 3, 18, -1));
        x.fix(0, 1);
        x.first();
        due("with a SETTING", x.digest(), mixed(2, 2, 1, 3, 2, 1, 1, 1, 1, 0, 0, 1, 14, 3, 18, 1, 0, -1));
        x.search();
        due("with what was FOUND", x.digest(), mixed(2, 2, 1, 3, 2, 1, 1, 1, 1, 0, 0, 1, 14, 3, 18, 1, 0, 3));
        due("it changes nothing", x.digest(), mixed(2, 2, 1, 3, 2, 1, 1, 1, 1, 0, 0, 1, 14, 3, 18, 1, 0, 3));
    }

    /** Any call with wrong numbers, in a few states, leaves the digest as it is. */
    private static void wrongNumbers() {
        KeySetter[] states = {new KeySetter(), plain(3, TEXT, WAYS), plain(3, TEXT, WAYS)};
        states[2].first();
        states[2].search();
        for (KeySetter x : states) {
            long before = x.digest();
            for (int a : WRONG) {
                x.letters(a == 1 ? 0 : a);
                x.feed(a, 5, 5);
                x.tear(a);
                x.often(a, a);
                x.key(a, 0);
                x.key(0, a == 12 || a == 13 ? -1 : a);
                x.go(a, 0, 0);
                x.cost(a, a);
                x.body(a);
                x.fix(a, 0);
                x.put(a, 0);
                x.at(a);
                x.share(a);
                x.change(a, 0);
                x.price(a, 0);
                x.count(a);
                due("digest() after wrong numbers", x.digest(), before);
            }
        }
    }

    public static void main(String[] args) {
        promise = 1; newObject();
        promise = 2; letters();
        promise = 3; feed();
        promise = 4; tear();
        promise = 5; often();
        promise = 6; key();
        promise = 7; go();
        promise = 8; cost();
        promise = 9; body();
        promise = 10; fix();
        promise = 11; first();
        promise = 12; put();
        promise = 13; at();
        promise = 14; all();
        promise = 15; share();
        promise = 16; better();
        promise = 17; change();
        promise = 18; search();
        promise = 19; least();
        promise = 20; take();
        promise = 21; tries();
        promise = 22; bound();
        promise = 23; price();
        promise = 24; turns();
        promise = 25; alike();
        promise = 26; count();
        promise = 27; digest();
        wrongNumbers();
        System.out.println(wrong == 0 ? "all promises hold" : wrong + " answers are not as due");
        if (wrong != 0) System.exit(1);
    }
}
