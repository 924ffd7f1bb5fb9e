import java.io.IOException;
import java.math.BigInteger;
import java.nio.file.Files;
import java.nio.file.Path;
import java.util.ArrayList;
import java.util.LinkedHashMap;
import java.util.List;
import java.util.Map;
import java.util.function.Consumer;

/**
 * The document sentence by sentence: each one is quoted, and what it says is asked at its bounds. At the end the quotes
 * are laid beside the document, so that no sentence of a promise is left without a test.
 */
public final class BoundaryTest {
    private static final int NONE = -1, BAD = -2, NO = -3, FULL = -4, SPENT = -5;
    private static final long CHANGE_BAD = 1000000000L, CHANGE_NO = 1000000001L;
    private static final int LEAST = Integer.MIN_VALUE, GREATEST = Integer.MAX_VALUE;
    private static final String TERMS = "Terms";
    // FaceTest has the one; the other says what is free.
    private static final List<String> HEADINGS_WITHOUT_CALLS = List.of("The public face", "Not promised");

    private static final Map<String, List<String>> quotes = new LinkedHashMap<>();
    private static String section = "";
    private static String sentence = "";
    private static int asked = 0;
    private static int wrong = 0;

    // ---- quoting and asking

    private static void of(String name) {
        endSentence();
        section = name;
        sentence = "";
    }

    private static void says(String quote) {
        endSentence();
        sentence = quote;
        asked = 0;
        quotes.computeIfAbsent(section, s -> new ArrayList<>()).add(quote);
    }

    private static void endSentence() {
        if (!sentence.isEmpty() && asked == 0) fail("nothing was asked");
    }

    private static void fail(String what) {
        wrong++;
        System.out.println(section + ", \"" + sentence + "\": " + what);
    }

    private static void due(String what, long got, long want) {
        asked++;
        if (got != want) fail(what + " answered " + got + ", due is " + want);
    }

    private static void dueAt(String when, KeySetter x, int... keys) {
        for (int l = 0; l < keys.length; l++) due("at(" + l + ") " + when, x.at(l), keys[l]);
        due("at(" + keys.length + ") " + when, x.at(keys.length), BAD);
    }

    /** Numbers right outside of lo .. hi, far outside, and those that are inside if high bits are lost. */
    private static int[] outside(int lo, int hi) {
        return new int[] {lo - 1, lo - 2, hi + 1, hi + 2, lo + 65536, hi - 65536, LEAST, LEAST + 1, LEAST + lo + 1,
            GREATEST, GREATEST - 1};
    }

    // ---- making objects

    private static void feedText(KeySetter x, int page, String text) {
        for (int from = 0; from < text.length(); from += 8) {
            int n = Math.min(8, text.length() - from);
            long w = 0;
            for (int i = from; i < from + n; i++) w = w << 8 | text.charAt(i);
            x.feed(page, w, n);
        }
    }

    /** n LETTERS, a page 0 of this text (if it has signs), and as many PLAIN KEYS as the rows of GO. */
    private static KeySetter plain(int n, String text, int[][] go) {
        KeySetter x = new KeySetter();
        x.letters(n);
        feedText(x, 0, text);
        for (int i = 0; i < go.length; i++) x.key(0, 0);
        for (int i = 0; i < go.length; i++) for (int k = 0; k < go.length; k++) if (go[i][k] != 0) x.go(i, k, go[i][k]);
        return x;
    }

    private static KeySetter plain(int n, String text, int keys) {
        return plain(n, text, new int[keys][keys]);
    }

    private static KeySetter even(int n, String text, int keys, int everyGo) {
        int[][] go = new int[keys][keys];
        for (int[] row : go) java.util.Arrays.fill(row, everyGo);
        return plain(n, text, go);
    }

    private static KeySetter kinds(int... kindsAndExtras) {
        KeySetter x = new KeySetter();
        for (int i = 0; i + 1 < kindsAndExtras.length; i += 2) x.key(kindsAndExtras[i], kindsAndExtras[i + 1]);
        return x;
    }

    /** 300 signs, these eight again and again. */
    private static void fill(KeySetter x, int page, String eight) {
        feedText(x, page, eight.repeat(38).substring(0, 300));
    }

    // ---- the object and the terms

    private static void whatItIs() {
        of("What it is");
        says("A maker of typewriters: how often letters follow one another in pages, keys of kinds with costs of going from one to another, settings of letters on keys bettered two by two, the least cost found by placing letter after letter, a bound below all settings, turns of the keyboard that change nothing.");
        KeySetter x = plain(3, TEXT, WAYS);
        due("how often", x.often(0, 1), 2);
        due("a cost of going", x.cost(0, 2), 2);
        x.first();
        x.put(1, 2);
        due("a setting: twice 2, 6, 3", x.all(), 13);
        due("bettered", x.better(), 1);
        due("by two: twice 1, 4, 5", x.all(), 11);
        due("search", x.search(), 1);
        due("the least cost", x.least(), 11);
        due("a bound below: twice 1 of a, 3 of b, 5 of c", x.bound(), 10);
        due("turns", x.turns(), 1);

        says("======== 1 LETTERS are the first n (1 ..");
        for (int n = 1; n <= 10; n++) {
            x = new KeySetter();
            due("as many as " + n, x.letters(n), 6);
            due("there are " + n, x.count(0), n);
            for (int l = 0; l < 10; l++) due("LETTER " + l + " of " + n, x.often(l, l), l < n ? 0 : BAD);
        }
        for (int n : outside(1, 10)) due("not as many as " + n, new KeySetter().letters(n), BAD);
    }

    private static void anObject() {
        of("What it is");
        says("An object is used for at most 512 calls after it has been made; what later calls answer is free.");
        KeySetter x = new KeySetter();
        x.letters(2);
        x.key(0, 0);
        x.key(3, 1000);
        x.go(0, 1, 7);
        for (int call = 5; call <= 500; call++) due("call " + call, x.go(1, 0, call % 2), call == 5 ? 0 : (call - 1) % 2);
        due("call 501", x.feed(0, 0x6162, 2), 2);
        due("call 502", x.first(), 1);
        due("call 503", x.all(), 2014);
        due("call 504", x.better(), 1);
        due("call 505", x.search(), 1);
        due("call 506", x.least(), 0);
        due("call 507", x.alike(), 1);
        due("call 508", x.bound(), 0);
        due("call 509", x.turns(), 1);
        due("call 510", x.cost(0, 1), 2014);
        due("call 511", x.body(2), 1);
        due("call 512", x.digest(), mixed(2, 2, 1, 2, 1, 0, 1, 0, 1, 0, 0, 0, 2014, 0, 2000, 1, 0, 0));
    }

    private static long mixed(long... values) {
        long h = 59;
        for (long v : values) h = 31 * h + v;
        return h;
    }

    private static void termsOfPages() {
        of(TERMS);
        says("10; 6 at first) of a, b, c, ..; any other sign is none.");
        due("at first", new KeySetter().count(0), 6);
        for (int n = 1; n <= 10; n++) {
            KeySetter x = new KeySetter();
            x.letters(n);
            feedText(x, 0, "`aabbccddeeffgghhiijjkkl");
            for (int l = 0; l < n; l++) due("twice the same, " + l + " of " + n, x.often(l, l), 1);
            for (int l = 0; l + 1 < n; l++) due("the next one, " + l + " of " + n, x.often(l, l + 1), 1);
            due("the first that is none", x.often(n, n), BAD);
            due("pairs of " + n, x.count(4), 2 * n - 1);
        }
        KeySetter x = new KeySetter();
        x.letters(10);
        for (int sign = 0; sign < 256; sign += 4) {
            StringBuilder text = new StringBuilder();
            for (int s = sign; s < sign + 4; s++) text.append((char) s).append('a');
            feedText(x, sign / 128, text.toString());
        }
        due("every sign before a and behind it", x.count(3), 512);
        due("only a .. j count", x.count(4), 20);

        says("PAGES 0 .. 5 have up to 300 signs each, or are not there.");
        x = new KeySetter();
        for (int page = 0; page < 6; page++) due("not there: " + page, x.tear(page), NO);
        for (int page = 0; page < 6; page++) {
            fill(x, page, "--------");
            due("full: " + page, x.feed(page, 'a', 1), FULL);
            due("there", x.count(2), page + 1);
        }
        due("all signs", x.count(3), 1800);
        for (int page = 0; page < 6; page++) due("had " + page, x.tear(page), 300);
        for (int page = 0; page < 6; page++) due("not there again: " + page, x.tear(page), NO);
        due("PAGE -1", x.tear(-1), BAD);
        due("PAGE 6", x.tear(6), BAD);

        says("OFTEN of two LETTERS: how many times, over all PAGES that are there, the second one stands right behind the first.");
        x = new KeySetter();
        feedText(x, 0, "aaab-ab a");
        feedText(x, 1, "bca");
        feedText(x, 1, "b");
        feedText(x, 2, "b");
        due("aaa has it twice", x.often(0, 0), 2);
        due("ab, across two feeds too", x.often(0, 1), 3);
        due("not from PAGE to PAGE, nor the other way round", x.often(1, 0), 0);
        due("ca", x.often(2, 0), 1);
        x.tear(1);
        due("ab without that PAGE", x.often(0, 1), 2);
        due("ca without that PAGE", x.often(2, 0), 0);
        x = new KeySetter();
        due("without PAGES", x.often(5, 5), 0);
        for (int page = 0; page < 6; page++) fill(x, page, "aaaaaaaa");
        due("the most", x.often(0, 0), 6 * 299);
    }

    private static void termsOfKeys() {
        of(TERMS);
        says("KEYS 0 .. 11, as they come, are of a KIND: 0 PLAIN, 1 HOME, 2 BAD, 3 WORSE; have an EXTRA (0 .. 1000).");
        KeySetter x = new KeySetter();
        int[] extras = {0, 1, 999, 1000};
        for (int k = 0; k < 12; k++) due("number", x.key(k % 4, extras[k / 4 + k % 2]), k);
        for (int k = 0; k < 12; k++) {
            int extra = extras[k / 4 + k % 2];
            x.go(0, k, 9);
            int[] costs = {9, 4, 9 + extra, 2 * (9 + extra)};
            due("KIND and EXTRA of " + k, x.cost(0, k), costs[k % 4]);
        }
        due("KEY 12", x.cost(0, 12), BAD);
        due("KEY -1", x.cost(-1, 0), BAD);

        says("GO tells of each two KEYS i, k a number 0 .. 1000 (0 at first; of a KEY to itself, too).");
        x = plain(6, "", 12);
        for (int i = 0; i < 12; i++) for (int k = 0; k < 12; k++) due("at first " + i + ", " + k, x.go(i, k, 80 * i + k), 0);
        for (int i = 0; i < 12; i++) for (int k = 0; k < 12; k++) due("then " + i + ", " + k, x.go(i, k, 1000), 80 * i + k);
        for (int i = 0; i < 12; i++) due("the most", x.cost(11 - i, i), 1000);

        x = kinds(2, 5, 3, 7);
        int[] extrasAlone = {5, 14};
        for (int i = 0; i < 2; i++) for (int k = 0; k < 2; k++) due("0 at first, so EXTRA alone", x.cost(i, k), extrasAlone[k]);

        says("THE COST of going from i to k is by BODIES of k:");
        x = kinds(0, 5, 1, 5, 2, 5, 3, 5);
        int[][] bodies = {{1, NONE, NONE, NONE}, {2, 1, NONE, NONE}, {3, 1, NONE, NONE}, {4, 3, 1, NONE}};
        for (int i = 0; i < 4; i++) {
            for (int k = 0; k < 4; k++) {
                x.cost(i, k);
                for (int b = 0; b < 4; b++) due("body(" + b + ") from " + i + " to " + k, x.body(b), bodies[k][b]);
            }
        }

        says("PLAIN (1): GO of i, k.");
        for (int g : new int[] {0, 1, 999, 1000}) due("of " + g, costBy(0, 1000, g), g);
        says("HOME (2): half of what PLAIN's gives, cut (1 follows).");
        int[] halves = {0, 0, 1, 1, 2, 499, 499, 500};
        int[] wholes = {0, 1, 2, 3, 4, 998, 999, 1000};
        for (int i = 0; i < 8; i++) due("of " + wholes[i], costBy(1, 1000, wholes[i]), halves[i]);
        says("BAD (3): what PLAIN's gives, and k's EXTRA (1 follows).");
        for (int g : new int[] {0, 1, 1000}) for (int e : new int[] {0, 1, 1000}) due("of " + g + " and " + e, costBy(2, e, g), g + e);
        says("WORSE (4): twice what BAD's gives (3, 1 follow).");
        for (int g : new int[] {0, 1, 1000}) for (int e : new int[] {0, 1, 1000}) due("of " + g + " and " + e, costBy(3, e, g), 2 * (g + e));
    }

    /** THE COST to a KEY of that KIND and EXTRA from a WORSE one whose EXTRA would be seen. */
    private static int costBy(int kind, int extra, int going) {
        KeySetter x = kinds(3, 77, kind, extra);
        x.go(0, 1, going);
        return x.cost(0, 1);
    }

    // ab 2 times, bc 1, ca 1, aa 1
    private static final String TEXT = "abcaab";
    private static final int[][] WAYS = {{9, 1, 2}, {3, 9, 4}, {5, 6, 9}};

    private static void dueApart(String when, KeySetter x, int n) {
        for (int a = 0; a < n; a++) for (int b = 0; b < a; b++) due(when + ": one KEY of " + a + " and " + b, x.at(a) == x.at(b) ? 1 : 0, 0);
    }

    private static void termsOfSettings() {
        of(TERMS);
        says("A SETTING puts each LETTER on a KEY of its own; some LETTERS may be FIXED on a KEY.");
        KeySetter x = even(10, "abcdefghij", 10, 3);
        for (int l = 0; l < 10; l += 3) x.fix(l, 9 - l);
        x.first();
        dueApart("first()", x, 10);
        for (int l = 0; l < 10; l += 3) due("FIXED", x.at(l), 9 - l);
        x.put(1, x.at(2));
        dueApart("put()", x, 10);
        x.better();
        dueApart("better()", x, 10);
        x.search();
        x.take();
        dueApart("take()", x, 10);
        for (int l = 0; l < 10; l++) due("each may be FIXED", x.fix(l, 9 - l), l % 3 == 0 ? 9 - l : NONE);
        x.first();
        for (int l = 0; l < 10; l++) due("each FIXED", x.at(l), 9 - l);

        says("The SETTING's COST: for each ordered pair of two unlike LETTERS OFTEN times THE COST from the first one's KEY to the second one's, together.");
        x = plain(3, TEXT, WAYS);
        x.first();
        due("2 * 1 + 4 + 5, and nothing for aa", x.all(), 11);
        x = plain(1, "aaaa", new int[][] {{1000}});
        x.first();
        due("one LETTER has no pairs", x.all(), 0);
        x = even(2, "abcacb", 3, 7);
        x.first();
        due("c is no LETTER", x.all(), 7);
        x = plain(2, "ba", new int[][] {{0, 1}, {10, 0}});
        x.first();
        due("from b's KEY to a's", x.all(), 10);

        says("A LETTER's SHARE: of these what has it, as first or second.");
        x = plain(3, TEXT, WAYS);
        x.first();
        due("a: ab and ca", x.share(0), 2 + 5);
        due("b: ab and bc", x.share(1), 2 + 4);
        due("c: bc and ca", x.share(2), 4 + 5);

        says("Two SETTINGS are in order by the KEY of a, then of b, and so on.");
        x = plain(3, "", 4);
        x.first();
        dueAt("the first of all", x, 0, 1, 2);
        x.search();
        x.take();
        dueAt("of like ones", x, 0, 1, 2);
        // only a on 3 or b on 3 costs nothing: 0, 3 is ahead of 3, 0
        x = plain(2, "ab", new int[][] {{0, 1, 1, 0}, {1, 0, 1, 1}, {1, 1, 0, 1}, {0, 1, 1, 0}});
        x.search();
        x.take();
        dueAt("by the KEY of a", x, 0, 3);
    }

    private static KeySetter started(int n, String text, int[][] go) {
        KeySetter x = plain(n, text, go);
        x.first();
        return x;
    }

    private static void termsOfBettering() {
        of(TERMS);
        says("======== 2 TO BETTER: of all CHANGES (two LETTERS that are not FIXED, the lesser one first, exchange KEYS;");
        KeySetter x = started(2, "ab", new int[][] {{0, 2}, {1, 0}});
        due("an exchange", x.better(), 1);
        dueAt("exchanged", x, 1, 0);
        for (int fixed = 0; fixed < 2; fixed++) {
            x = plain(2, "ab", new int[][] {{0, 2}, {1, 0}});
            x.fix(fixed, fixed);
            x.first();
            due("one is FIXED", x.better(), 0);
            dueAt("as it was", x, 0, 1);
        }

        says("a LETTER that is not FIXED goes to a KEY that bears none, that is none's that is FIXED)");
        x = started(1, "", new int[][] {{0, 0}, {0, 0}});
        due("one that costs nothing stays", x.better(), 0);
        int[][] third = {{0, 9, 1}, {9, 0, 2}, {9, 9, 0}};
        x = started(2, "ab", third);
        due("b goes", x.better(), 1);
        dueAt("b went", x, 0, 2);
        x = started(2, "ab", new int[][] {{0, 9, 9}, {1, 0, 9}, {9, 9, 0}});
        x.put(0, 2);
        x.put(1, 1);
        x.put(0, 1);
        dueAt("put", x, 1, 2);
        due("b goes to KEY 0", x.better(), 1);
        dueAt("b went", x, 1, 0);
        x = plain(2, "ab", third);
        x.fix(1, 1);
        x.first();
        due("b is FIXED", x.better(), 0);
        dueAt("as it was", x, 0, 1);
        x = plain(3, "ab", third);
        x.fix(2, 2);
        x.first();
        due("c is FIXED there", x.better(), 0);
        dueAt("as it was", x, 0, 1, 2);

        says("that which lessens the COST most is done, of like ones the first:");
        x = started(2, "ab", new int[][] {{0, 10, 4}, {6, 0, 4}, {5, 5, 0}});
        due("6 by the exchange, 5 as a goes, 4 as b goes", x.better(), 1);
        dueAt("b went", x, 0, 2);

        says("exchanges by first, then second LETTER,");
        x = started(3, "abc", new int[][] {{0, 5, 5}, {5, 0, 5}, {0, 0, 0}});
        due("a, c and b, c give 5", x.better(), 1);
        dueAt("a, c", x, 2, 1, 0);
        x = started(3, "abc", new int[][] {{0, 5, 4}, {1, 0, 5}, {0, 4, 0}});
        due("a, b and a, c give 5", x.better(), 1);
        dueAt("a, b", x, 1, 0, 2);
        says("then goings by LETTER, then KEY;");
        x = started(2, "ab", new int[][] {{0, 10, 4}, {4, 0, 4}, {4, 4, 0}});
        due("all give 4", x.better(), 1);
        dueAt("an exchange is ahead of goings", x, 1, 0);
        x = started(3, "abc", new int[][] {{0, 5, 5, 9}, {9, 0, 5, 9}, {9, 0, 0, 9}, {9, 0, 9, 0}});
        due("b, c and a to 3 give 5", x.better(), 1);
        dueAt("later LETTERS' exchanges, too", x, 0, 2, 1);
        x = started(2, "ab", new int[][] {{0, 10, 4}, {10, 0, 4}, {4, 4, 0}});
        due("both goings give 4", x.better(), 1);
        dueAt("a went", x, 2, 1);
        x = started(2, "ab", new int[][] {{0, 10, 9, 9}, {10, 0, 9, 9}, {9, 4, 0, 9}, {9, 4, 9, 0}});
        due("2 and 3 give 4", x.better(), 1);
        dueAt("a went to 2", x, 2, 1);
        // b's way to 2 is as good as a's to 3, the LETTER is looked at ahead of the KEY
        x = started(2, "ab", new int[][] {{0, 10, 4, 9}, {10, 0, 9, 9}, {9, 9, 0, 9}, {9, 4, 9, 0}});
        due("a to 3 and b to 2 give 4", x.better(), 1);
        dueAt("a went to 3", x, 3, 1);

        says("again and again till none lessens it.");
        x = started(2, "ab", new int[][] {{0, 10, 9}, {8, 0, 1}, {9, 9, 0}});
        due("an exchange, then b goes", x.better(), 2);
        dueAt("at its end", x, 1, 2);
        due("none lessens it", x.better(), 0);
        x = started(2, "ab", new int[][] {{0, 3, 3}, {3, 0, 3}, {3, 3, 0}});
        due("a like COST is none less", x.better(), 0);
        dueAt("as it was", x, 0, 1);
        x = started(2, "ab", new int[][] {{0, 3, 3}, {2, 0, 3}, {3, 3, 0}});
        due("one less is enough", x.better(), 1);
    }

    private static void termsOfTheSearch() {
        of(TERMS);
        says("THE SEARCH places LETTERS, a first, each on KEYS in order that are free (a FIXED one on its KEY alone, which no other one takes).");
        KeySetter x = plain(3, "", 3);
        x.search();
        // a 0, b 1, c 2; then b 2, a 1, a 2 do not go on
        due("tries of three", x.tries(), 6);
        x.fix(1, 0);
        x.search();
        due("a 1, b 0, c 2, a 2", x.tries(), 4);
        x.take();
        dueAt("b FIXED", x, 1, 0, 2);
        x.fix(0, 2);
        x.search();
        due("a 2, b 0, c 1", x.tries(), 3);
        x.fix(2, 1);
        x.search();
        due("all are FIXED", x.tries(), 3);
        x.take();
        dueAt("all FIXED", x, 2, 0, 1);

        says("Each placing is a TRY, with the COST of all that is placed:");
        x = plain(1, "", 12);
        x.search();
        due("one LETTER on twelve KEYS", x.tries(), 12);
        x = plain(10, "", 12);
        x.search();
        due("ten LETTERS on twelve KEYS: 12 + 11 + .. + 3", x.tries(), 75);
        // FOUND 2 with a 0, b 1; b 2 costs 1; a 1 and a 2 go on, and of these each b is tried
        x = plain(2, "ab", new int[][] {{0, 2, 1}, {2, 0, 2}, {2, 2, 0}});
        x.search();
        due("every two KEYS", x.tries(), 3 + 6);
        due("least", x.least(), 1);

        says("it goes on from there only if that is below the COST of what was FOUND (there is nothing FOUND at first);");
        x = even(3, "ab", 3, 5);
        x.search();
        due("c only once, as a, b cost what was FOUND", x.tries(), 3 + 6 + 1);
        x.go(2, 1, 4);
        x.search();
        due("c again where a, b cost one less", x.tries(), 3 + 6 + 2);
        x.go(2, 1, 6);
        x.search();
        due("not where they cost one more", x.tries(), 3 + 6 + 1);
        x = even(3, "ab", 3, 1000);
        due("what was FOUND by an earlier one is not looked at", x.search(), 1);
        due("tries", x.tries(), 10);
        due("again", x.search(), 1);
        due("as many tries", x.tries(), 10);

        says("when all are placed so, that is FOUND.");
        x = plain(2, "ab", new int[][] {{0, 2}, {1, 0}});
        x.search();
        due("FOUND", x.least(), 1);
        x.take();
        dueAt("FOUND", x, 1, 0);

        says("So the last that is FOUND is the first SETTING of the least COST.");
        x = even(2, "ab", 3, 5);
        x.search();
        x.take();
        dueAt("of all alike", x, 0, 1);
        x.go(1, 2, 4);
        x.go(2, 0, 4);
        x.search();
        x.take();
        dueAt("of two that are least", x, 1, 2);
        due("its COST", x.least(), 4);

        says("It is SPENT as a further TRY would be above 20000.");
        due("7 LETTERS on 7 KEYS", (x = even(7, "fg", 7, 5)).search(), 1);
        due("all placings", x.tries(), 7 + 42 + 210 + 840 + 2520 + 5040 + 5040);
        due("5 LETTERS on 8 KEYS", (x = even(5, "de", 8, 5)).search(), 1);
        due("all placings", x.tries(), 8 + 56 + 336 + 1680 + 6720);
        due("6 LETTERS on 8 KEYS", (x = even(6, "ef", 8, 5)).search(), SPENT);
        due("of 28960", x.tries(), 20000);
        due("20000 and no further one", (x = seeded(1278386)).search(), 1);
        due("tries", x.tries(), 20000);
        due("20001", (x = seeded(931780)).search(), SPENT);
        due("tries", x.tries(), 20000);
        x = even(10, "ij", 12, 5);
        due("the greatest", x.search(), SPENT);
        due("tries", x.tries(), 20000);
    }

    /** Five LETTERS on ten KEYS with numbers that a seed gives. */
    private static KeySetter seeded(long seed) {
        int[][] go = new int[10][10];
        long v = seed;
        for (int i = 0; i < 10; i++) {
            for (int k = 0; k < 10; k++) {
                v = (v * 1103515245L + 12345) & 0x7fffffffL;
                go[i][k] = (int) ((v >> 16) % 1001);
            }
        }
        return plain(5, "abcdecaebd", go);
    }

    // ab 2 times, ac 1, ba 1, ca 1
    private static final String STAR = "abaca b ab";
    private static final int[][] STAR_WAYS = {{0, 5, 1, 3}, {4, 0, 6, 2}, {7, 8, 0, 9}, {3, 3, 3, 0}};

    private static void termsOfTheBound() {
        of(TERMS);
        says("THE BOUND: of a LETTER on a KEY i its PRICE: the least sum of its OFTEN toward the other LETTERS, each times THE COST from i to a KEY other than i, each other LETTER having a KEY of its own");
        KeySetter x = plain(3, STAR, STAR_WAYS);
        int[] ofA = {2 * 1 + 3, 2 * 2 + 4, 2 * 7 + 8, 2 * 3 + 3};
        int[] ofB = {1, 2, 7, 3};
        for (int k = 0; k < 4; k++) {
            due("a on " + k, x.price(0, k), ofA[k]);
            due("b on " + k, x.price(1, k), ofB[k]);
            due("c on " + k, x.price(2, k), ofB[k]);
        }
        x = even(2, "aab", 2, 1000);
        x.go(0, 1, 6);
        due("not itself: a on 0", x.price(0, 0), 6);
        due("nor where none is behind it", x.price(1, 0), 0);
        x = plain(1, "aaa", new int[][] {{7}});
        due("no other LETTERS", x.price(0, 0), 0);

        says("(whichever; FIXED or not is not looked at).");
        x = plain(3, STAR, STAR_WAYS);
        x.fix(0, 2);
        x.fix(1, 3);
        x.fix(2, 0);
        for (int k = 0; k < 4; k++) {
            due("a on " + k, x.price(0, k), ofA[k]);
            due("b on " + k, x.price(1, k), ofB[k]);
        }

        says("THE BOUND is the least sum of PRICES over all SETTINGS that keep what is FIXED.");
        x = plain(3, STAR, STAR_WAYS);
        due("a 0, b and c on 1 and 3", x.bound(), 5 + 2 + 3);
        x.fix(0, 1);
        due("a on 1", x.bound(), 8 + 1 + 3);
        x.fix(1, 2);
        due("a on 1, b on 2", x.bound(), 8 + 7 + 1);
        x.fix(2, 3);
        due("all FIXED", x.bound(), 8 + 7 + 3);
        x.fix(0, NONE);
        due("b on 2, c on 3", x.bound(), 5 + 7 + 3);
        x = plain(2, "abababab", new int[][] {{0, 1000}, {1000, 0}});
        due("as many KEYS as LETTERS", x.bound(), 7000);
        x = new KeySetter();
        x.letters(2);
        x.key(3, 1000);
        x.key(3, 1000);
        x.go(0, 1, 1000);
        x.go(1, 0, 1000);
        for (int page = 0; page < 6; page++) fill(x, page, "abababab");
        due("the greatest", x.bound(), 6L * 299 * 4000);
        due("the greatest PRICE", x.price(0, 0), 6L * 150 * 4000);
    }

    private static void termsOfTurns() {
        of(TERMS);
        says("A TURN: an order of all KEYS so that each goes to one of the same KIND, EXTRA, and GO of each two (also of one to itself) is that of those that they go to.");
        due("one KEY", kinds(0, 0).turns(), 1);
        due("two like ones", kinds(2, 5, 2, 5).turns(), 2);
        due("another KIND", kinds(2, 5, 3, 5).turns(), 1);
        due("PLAIN and HOME", kinds(0, 0, 1, 0).turns(), 1);
        due("another EXTRA", kinds(2, 5, 2, 6).turns(), 1);
        due("EXTRA of PLAIN ones", kinds(0, 0, 0, 1000).turns(), 1);
        KeySetter x = kinds(0, 0, 0, 0);
        x.go(0, 1, 1);
        due("GO one way", x.turns(), 1);
        x.go(1, 0, 1);
        due("GO both ways", x.turns(), 2);
        x.go(1, 1, 1);
        due("GO to itself", x.turns(), 1);
        x.go(0, 0, 1);
        due("GO of both to themselves", x.turns(), 2);
        x = kinds(0, 0, 0, 0, 0, 0);
        x.go(0, 1, 1);
        due("from 0 to one of the others", x.turns(), 1);
        x.go(0, 2, 1);
        due("from 0 to both", x.turns(), 2);
        x.go(2, 0, 1);
        due("from one of them back", x.turns(), 1);
        x.go(1, 0, 1);
        due("from both back", x.turns(), 2);
        // HOME cuts both to 0, but GO is another
        x = kinds(1, 0, 1, 0);
        x.go(0, 1, 1);
        due("like COSTS are not enough", x.turns(), 1);
        x = plain(6, "", new int[][] {{0, 1, 0, 0}, {0, 0, 1, 0}, {0, 0, 0, 1}, {1, 0, 0, 0}});
        due("a ring of four", x.turns(), 4);
        x = plain(6, "", new int[][] {{0, 1, 0, 1}, {1, 0, 1, 0}, {0, 1, 0, 1}, {1, 0, 1, 0}});
        due("a square", x.turns(), 8);
    }

    private static void termsOfRefusing() {
        of(TERMS);
        says("Refused, changing nothing, the first of: BAD -2 a number is not as told; NO -3 as told; FULL -4; SPENT -5.");
        // RefusedTest asks every call afterwards; here is the order of those of which two are due
        KeySetter x = new KeySetter();
        due("at: BAD ahead of NO", x.at(6), BAD);
        due("at: NO", x.at(5), NO);
        due("share: BAD ahead of NO", x.share(-1), BAD);
        due("share: NO", x.share(0), NO);
        due("change: BAD ahead of NO", x.change(6, 0), CHANGE_BAD);
        due("change: BAD ahead of NO, of one", x.change(0, 0), CHANGE_BAD);
        due("change: NO", x.change(5, 0), CHANGE_NO);
        due("put: BAD ahead of NO", x.put(0, 0), BAD);
        due("price: BAD ahead of NO", x.price(0, 0), BAD);
        x.key(0, 0);
        due("put: BAD ahead of NO, of the LETTER", x.put(6, 0), BAD);
        due("put: NO", x.put(0, 0), NO);
        due("price: BAD ahead of NO, of the KEY", x.price(0, 1), BAD);
        due("price: BAD ahead of NO, of the LETTER", x.price(6, 0), BAD);
        due("price: NO", x.price(0, 0), NO);
        x.fix(0, 0);
        due("fix: BAD ahead of NO", x.fix(6, 0), BAD);
        due("fix: NO", x.fix(1, 0), NO);
        fill(x, 0, "abcdefab");
        due("feed: BAD ahead of FULL, of n", x.feed(0, 0, 9), BAD);
        due("feed: BAD ahead of FULL, of n", x.feed(0, 0, 0), BAD);
        due("feed: FULL", x.feed(0, 0, 8), FULL);
        for (int k = 1; k < 12; k++) x.key(0, 0);
        due("key: BAD ahead of FULL, of the KIND", x.key(4, 0), BAD);
        due("key: BAD ahead of FULL, of the EXTRA", x.key(3, 1001), BAD);
        due("key: FULL", x.key(3, 1000), FULL);
        x = even(10, "ij", 9, 5);
        due("search: NO, though it would be SPENT", x.search(), NO);
        x.key(2, 5);
        for (int k = 0; k < 10; k++) x.go(9, k, 5);
        due("search: SPENT", x.search(), SPENT);
    }

    // ---- promises 1 to 9

    private static void promiseNewObject() {
        of("Promise 1");
        says("Six LETTERS, no PAGES, no KEYS, no SETTING.");
        KeySetter x = new KeySetter();
        int[] counts = {6, 0, 0, 0, 0, 0, 0};
        for (int what = 0; what < 7; what++) due("count(" + what + ")", x.count(what), counts[what]);
        for (int l = 0; l < 6; l++) due("at(" + l + ")", x.at(l), NO);
        due("at(6)", x.at(6), BAD);
        due("all()", x.all(), NO);
        due("better()", x.better(), NO);
        due("first()", x.first(), NO);
        due("search()", x.search(), NO);
        due("bound()", x.bound(), NO);
        due("turns()", x.turns(), NO);
        due("alike()", x.alike(), NO);
        due("take()", x.take(), NO);
        due("least()", x.least(), -1);
        due("tries()", x.tries(), 0);
        due("body(0)", x.body(0), NONE);
        due("cost(0, 0)", x.cost(0, 0), BAD);
        for (int l = 0; l < 6; l++) due("fix(" + l + ", NONE)", x.fix(l, NONE), NONE);
        due("the first KEY", x.key(0, 0), 0);
        due("nothing is FIXED there", x.fix(5, 0), NONE);
        KeySetter other = new KeySetter();
        due("another object has none of that", other.count(1), 0);
    }

    private static void promiseLetters() {
        of("Promise 2");
        says("There are n LETTERS from now on: how many there were.");
        KeySetter x = new KeySetter();
        due("1", x.letters(1), 6);
        due("one LETTER", x.often(0, 0), 0);
        due("a second one", x.often(1, 0), BAD);
        for (int n = 2; n <= 10; n++) due("" + n, x.letters(n), n - 1);
        due("ten LETTERS", x.often(9, 9), 0);
        due("an eleventh", x.often(10, 9), BAD);
        due("the same again", x.letters(10), 10);
        due("1 again", x.letters(1), 10);

        says("The SETTING goes, nothing is FIXED, what was FOUND goes.");
        for (int n = 1; n <= 10; n++) {
            x = even(3, "abc", 10, 1);
            x.fix(0, 0);
            x.fix(2, 9);
            x.first();
            x.search();
            due("there were", x.letters(n), 3);
            due("no SETTING", x.count(6), 0);
            due("nothing FIXED", x.count(5), 0);
            due("nothing FOUND", x.least(), -1);
            due("a was not FIXED", x.fix(0, NONE), NONE);
            due("9 is free", x.fix(0, 9), NONE);
            due("KEYS stay", x.count(1), 10);
            due("PAGES stay", x.count(3), 3);
        }

        says("BAD.");
        for (int n : outside(1, 10)) due("letters(" + n + ")", new KeySetter().letters(n), BAD);
    }

    private static void promiseFeed() {
        of("Promise 3");
        says("n signs come to a PAGE (which is there then), the lowest bytes of w, the highest of these first: how many it has.");
        long w = 0x6A69686766656463L;
        for (int n = 1; n <= 8; n++) {
            KeySetter x = new KeySetter();
            x.letters(10);
            due("n = " + n, x.feed(n % 6, w, n), n);
            due("it is there", x.count(2), 1);
            due("signs", x.count(3), n);
            due("pairs", x.count(4), n - 1);
            for (int l = 2; l + 1 < 2 + n; l++) due("the higher ahead of the lower", x.often(l + 1, l), 1);
            due("again", x.feed(n % 6, w, n), 2 * n);
            due("the first behind the last", x.often(2, n + 1), 1);
        }
        KeySetter x = new KeySetter();
        due("the least long", x.feed(0, Long.MIN_VALUE, 8), 8);
        due("the greatest long", x.feed(0, Long.MAX_VALUE, 8), 16);
        due("-1", x.feed(0, -1L, 8), 24);
        due("0", x.feed(0, 0L, 1), 25);
        due("no LETTERS", x.count(4), 0);
        due("high bytes do not count", x.feed(1, 0xFFFFFFFFFFFF6162L, 2), 2);
        due("ab", x.often(0, 1), 1);
        due("a byte is not cut by a sign", x.feed(2, 0x6162L << 48 | 0xFFFFFFFFFFFFL, 8), 8);
        due("ab", x.often(0, 1), 2);

        says("What was FOUND goes.");
        x = even(2, "ab", 2, 1);
        x.search();
        due("FOUND", x.least(), 1);
        x.feed(5, 0, 1);
        due("by one sign that is none", x.least(), -1);
        due("take()", x.take(), NO);

        says("BAD: also n is not 1 .. 8;");
        x = new KeySetter();
        for (int n : outside(1, 8)) due("n = " + n, x.feed(0, 'a', n), BAD);
        for (int page : outside(0, 5)) due("page " + page, x.feed(page, 'a', 1), BAD);
        due("none is there", x.count(2), 0);

        says("FULL: above 300.");
        for (int n = 1; n <= 8; n++) {
            x = new KeySetter();
            feedText(x, 0, "-".repeat(301 - n));
            due("301, n = " + n, x.feed(0, 0, n), FULL);
            due("it has as many as before", x.count(3), 301 - n);
            x = new KeySetter();
            feedText(x, 0, "-".repeat(300 - n));
            due("300, n = " + n, x.feed(0, 0, n), 300);
            due("301", x.feed(0, 0, 1), FULL);
            due("308", x.feed(0, 0, 8), FULL);
            due("another one has room", x.feed(1, 0, 8), 8);
            due("torn out", x.tear(0), 300);
            due("it has room again", x.feed(0, 0, 8), 8);
        }
    }

    private static void promiseTear() {
        of("Promise 4");
        says("A PAGE is torn out: how many signs it had.");
        KeySetter x = new KeySetter();
        for (int page = 0; page < 6; page++) feedText(x, page, "abababab".substring(page));
        for (int page = 5; page >= 0; page--) {
            due("tear(" + page + ")", x.tear(page), 8 - page);
            due("PAGES", x.count(2), page);
        }
        due("no signs", x.count(3), 0);
        due("no pairs", x.count(4), 0);
        feedText(x, 0, "b");
        due("what comes anew is not behind what was there", x.count(4), 0);
        due("it has one sign", x.tear(0), 1);

        says("What was FOUND goes.");
        x = even(2, "ab", 2, 1);
        feedText(x, 1, "-");
        x.search();
        due("FOUND", x.least(), 1);
        x.tear(1);
        due("by a PAGE without LETTERS", x.least(), -1);

        says("BAD;");
        x = even(2, "ab", 2, 1);
        for (int page : outside(0, 5)) due("tear(" + page + ")", x.tear(page), BAD);
        says("NO: it is not there.");
        for (int page = 1; page < 6; page++) due("tear(" + page + ")", x.tear(page), NO);
        x.tear(0);
        due("not there any more", x.tear(0), NO);
    }

    private static void promiseOften() {
        of("Promise 5");
        says("OFTEN of two LETTERS.");
        KeySetter x = new KeySetter();
        x.letters(10);
        feedText(x, 3, "ajja");
        due("first, last", x.often(0, 9), 1);
        due("last, last", x.often(9, 9), 1);
        due("last, first", x.often(9, 0), 1);
        due("first, first", x.often(0, 0), 0);
        says("BAD.");
        for (int n : new int[] {1, 6, 10}) {
            x.letters(n);
            for (int l : outside(0, n - 1)) {
                due("often(" + l + ", 0) of " + n, x.often(l, 0), BAD);
                due("often(0, " + l + ") of " + n, x.often(0, l), BAD);
                due("often(" + l + ", " + l + ") of " + n, x.often(l, l), BAD);
            }
        }
    }

    private static void promiseKey() {
        of("Promise 6");
        says("A KEY: its number.");
        KeySetter x = new KeySetter();
        int[][] corners = {{0, 0}, {0, 1000}, {3, 0}, {3, 1000}, {1, 1}, {2, 999}};
        for (int k = 0; k < 12; k++) {
            due("key", x.key(corners[k % 6][0], corners[k % 6][1]), k);
            due("KEYS", x.count(1), k + 1);
        }

        says("What was FOUND goes.");
        x = even(2, "ab", 2, 1);
        x.search();
        due("FOUND", x.least(), 1);
        x.key(0, 0);
        due("it went", x.least(), -1);

        says("BAD;");
        x = new KeySetter();
        for (int kind : outside(0, 3)) due("kind " + kind, x.key(kind, 0), BAD);
        for (int extra : outside(0, 1000)) due("extra " + extra, x.key(0, extra), BAD);
        due("no KEY", x.count(1), 0);

        says("FULL: 12.");
        x = plain(6, "", 11);
        due("the twelfth", x.key(0, 0), 11);
        due("a thirteenth", x.key(0, 0), FULL);
        due("again", x.key(3, 1000), FULL);
        due("KEYS", x.count(1), 12);
    }

    private static void promiseGo() {
        of("Promise 7");
        says("GO of two KEYS becomes c: what it was.");
        KeySetter x = plain(6, "", 12);
        int[] numbers = {0, 1, 999, 1000, 0};
        for (int[] two : new int[][] {{0, 0}, {0, 11}, {11, 0}, {11, 11}}) {
            int before = 0;
            for (int c : numbers) {
                due("go", x.go(two[0], two[1], c), before);
                due("it became", x.cost(two[0], two[1]), c);
                before = c;
            }
        }
        says("What was FOUND goes.");
        x = even(2, "ab", 2, 1);
        x.search();
        due("FOUND", x.least(), 1);
        due("the same number", x.go(0, 0, 1), 1);
        due("it went", x.least(), -1);

        says("BAD.");
        for (int n : new int[] {0, 1, 2, 12}) {
            x = plain(6, "", n);
            for (int i : outside(0, n - 1)) {
                due("from " + i + " of " + n, x.go(i, 0, 1), BAD);
                due("to " + i + " of " + n, x.go(0, i, 1), BAD);
                if (n > 0) for (int c : new int[] {-1, 1001, LEAST, GREATEST}) due("number " + c, x.go(0, n - 1, c), BAD);
            }
            if (n > 0) for (int c : outside(0, 1000)) due("number " + c, x.go(n - 1, 0, c), BAD);
            if (n > 0) due("it is as it was", x.go(n - 1, 0, 0), 0);
        }
    }

    private static void promiseCost() {
        of("Promise 8");
        says("THE COST of going from one KEY to another; which BODIES were asked is written anew.");
        KeySetter x = kinds(3, 1000, 0, 1000);
        x.go(0, 0, 1000);
        x.go(1, 1, 1000);
        due("to itself, the greatest", x.cost(0, 0), 4000);
        due("three BODIES", x.body(2), 1);
        due("PLAIN", x.cost(1, 1), 1000);
        due("the first one", x.body(0), 1);
        due("no second one any more", x.body(1), NONE);
        due("no third one any more", x.body(2), NONE);
        due("the other way", x.cost(0, 1), 0);

        says("BAD (what was written stays).");
        x.cost(1, 0);
        for (int n : outside(0, 1)) {
            due("cost(" + n + ", 0)", x.cost(n, 0), BAD);
            due("cost(0, " + n + ")", x.cost(0, n), BAD);
            due("cost(1, " + n + ")", x.cost(1, n), BAD);
            due("cost(" + n + ", " + n + ")", x.cost(n, n), BAD);
            due("body(0)", x.body(0), 4);
            due("body(1)", x.body(1), 3);
            due("body(2)", x.body(2), 1);
            due("body(3)", x.body(3), NONE);
        }
    }

    private static void promiseBody() {
        of("Promise 9");
        says("The i-th BODY that was asked in the latest cost().");
        KeySetter x = kinds(0, 0, 1, 0, 2, 0, 3, 0);
        int[][] bodies = {{1}, {2, 1}, {3, 1}, {4, 3, 1}};
        for (int k : new int[] {3, 0, 2, 1, 3}) {
            x.cost(k, k);
            for (int i = 0; i < bodies[k].length; i++) due("body(" + i + ") of " + k, x.body(i), bodies[k][i]);
            due("body again", x.body(0), bodies[k][0]);
        }
        says("NONE: not so many.");
        due("before any cost()", new KeySetter().body(0), NONE);
        for (int k = 0; k < 4; k++) {
            x.cost(0, k);
            for (int i : outside(0, bodies[k].length - 1)) due("body(" + i + ") of " + k, x.body(i), NONE);
        }
    }

    // ---- promises 10 to 17

    private static void promiseFix() {
        of("Promise 10");
        says("A LETTER is FIXED on a KEY (NONE: on none): on which it was (NONE).");
        KeySetter x = plain(10, "", 12);
        due("the last on the last", x.fix(9, 11), NONE);
        due("once more", x.fix(9, 11), 11);
        due("on another", x.fix(9, 0), 11);
        due("on none", x.fix(9, NONE), 0);
        due("on none again", x.fix(9, NONE), NONE);
        due("what it left is free", x.fix(0, 11), NONE);
        due("what it left last is free", x.fix(1, 0), NONE);
        due("FIXED", x.count(5), 2);
        x.first();
        due("a", x.at(0), 11);
        due("b", x.at(1), 0);
        due("none FIXED where it was", x.at(9), 8);
        due("with fewer KEYS than LETTERS", plain(6, "", 1).fix(5, 0), NONE);
        due("without KEYS", new KeySetter().fix(5, NONE), NONE);

        says("The SETTING and what was FOUND go.");
        for (int key : new int[] {NONE, 0, 2}) {
            x = even(2, "ab", 3, 1);
            x.fix(0, 0);
            x.first();
            x.search();
            due("FOUND", x.least(), 1);
            due("on which it was", x.fix(0, key), 0);
            due("no SETTING", x.count(6), 0);
            due("at(0)", x.at(0), NO);
            due("nothing FOUND", x.least(), -1);
            due("take()", x.take(), NO);
        }

        says("BAD;");
        for (int n : new int[] {1, 6, 10}) {
            x = plain(n, "", 11);
            for (int l : outside(0, n - 1)) due("letter " + l, x.fix(l, 0), BAD);
            for (int l : outside(0, n - 1)) due("letter " + l + " on none", x.fix(l, NONE), BAD);
            for (int k : outside(-1, 10)) due("key " + k, x.fix(n - 1, k), BAD);
            due("nothing is FIXED", x.count(5), 0);
        }
        due("KEY 0 without KEYS", new KeySetter().fix(0, 0), BAD);

        says("NO: another one is FIXED there.");
        x = plain(3, "", 3);
        x.fix(1, 2);
        due("a", x.fix(0, 2), NO);
        due("c", x.fix(2, 2), NO);
        due("itself is no other one", x.fix(1, 2), 2);
        x.fix(2, 0);
        due("one that is FIXED elsewhere", x.fix(2, 2), NO);
        due("it stays there", x.fix(2, 0), 0);
        due("none is no KEY of another one", x.fix(0, NONE), NONE);
    }

    private static void promiseFirst() {
        of("Promise 11");
        says("The SETTING becomes the first in order that keeps what is FIXED: 1.");
        KeySetter x = plain(3, "", 12);
        due("first()", x.first(), 1);
        dueAt("nothing FIXED", x, 0, 1, 2);
        x.fix(2, 0);
        due("first()", x.first(), 1);
        dueAt("c FIXED", x, 1, 2, 0);
        x.fix(0, 11);
        x.first();
        dueAt("a, c FIXED", x, 11, 1, 0);
        x.fix(1, 5);
        x.first();
        dueAt("all FIXED", x, 11, 5, 0);
        x.fix(0, NONE);
        x.fix(1, 1);
        x.first();
        dueAt("b, c FIXED on the first ones", x, 2, 1, 0);
        x.put(0, 7);
        x.first();
        dueAt("once more", x, 2, 1, 0);
        x = plain(10, "", 12);
        x.fix(9, 1);
        x.fix(8, 3);
        x.first();
        dueAt("ten", x, 0, 2, 4, 5, 6, 7, 8, 9, 3, 1);

        says("NO: there are fewer KEYS than LETTERS.");
        for (int n = 1; n <= 10; n++) {
            x = plain(n, "", n - 1);
            due("one too few of " + n, x.first(), NO);
            due("no SETTING", x.count(6), 0);
            x.key(0, 0);
            due("as many as " + n, x.first(), 1);
            due("the last one", x.at(n - 1), n - 1);
        }
    }

    private static void promisePut() {
        of("Promise 12");
        says("A LETTER goes to a KEY, what is there (if one is) to its KEY: 1.");
        KeySetter x = plain(3, "", 12);
        x.first();
        due("an exchange", x.put(0, 2), 1);
        dueAt("exchanged", x, 2, 1, 0);
        due("the last LETTER to the last KEY", x.put(2, 11), 1);
        dueAt("gone", x, 2, 1, 11);
        due("where it is", x.put(1, 1), 1);
        dueAt("as it was", x, 2, 1, 11);
        due("to a KEY that is free now", x.put(1, 0), 1);
        dueAt("gone", x, 2, 0, 11);
        x = plain(3, "", 3);
        x.key(0, 0);
        x.first();
        x.key(0, 0);
        due("to a KEY that came later", x.put(0, 4), 1);
        dueAt("gone", x, 4, 1, 2);

        says("BAD;");
        for (int n : new int[] {1, 6, 10}) {
            x = plain(n, "", 11);
            x.first();
            for (int l : outside(0, n - 1)) due("letter " + l, x.put(l, 0), BAD);
            for (int k : outside(0, 10)) due("key " + k, x.put(0, k), BAD);
            due("the first LETTER", x.at(0), 0);
        }

        says("NO: there is no SETTING, or one of both is FIXED.");
        x = plain(3, "", 4);
        due("no SETTING", x.put(0, 3), NO);
        x.fix(1, 1);
        x.first();
        due("the LETTER is FIXED", x.put(1, 3), NO);
        due("and the other one is not", x.put(1, 0), NO);
        due("where it is", x.put(1, 1), NO);
        due("what is there is FIXED", x.put(0, 1), NO);
        dueAt("as it was", x, 0, 1, 2);
        due("none of both is", x.put(0, 2), 1);
        due("none is there", x.put(0, 3), 1);
        x.letters(3);
        due("no SETTING any more", x.put(0, 0), NO);
    }

    private static void promiseAt() {
        of("Promise 13");
        says("The KEY of a LETTER.");
        KeySetter x = plain(10, "", 12);
        x.first();
        x.put(9, 11);
        due("the first", x.at(0), 0);
        due("the last", x.at(9), 11);
        says("BAD;");
        for (int n : new int[] {1, 6, 10}) {
            x = plain(n, "", 12);
            for (int l : outside(0, n - 1)) due("at(" + l + ") without a SETTING", x.at(l), BAD);
            x.first();
            for (int l : outside(0, n - 1)) due("at(" + l + ")", x.at(l), BAD);
        }
        says("NO: there is no SETTING.");
        x = plain(2, "", 2);
        due("at first", x.at(0), NO);
        x.search();
        due("FOUND is no SETTING", x.at(1), NO);
        x.first();
        x.letters(2);
        due("it went", x.at(1), NO);
    }

    private static void promiseAll() {
        of("Promise 14");
        says("The SETTING's COST;");
        KeySetter x = even(2, "", 2, 1000);
        x.first();
        due("without PAGES", x.all(), 0);
        x = new KeySetter();
        x.letters(2);
        x.key(3, 1000);
        x.key(3, 1000);
        x.go(0, 1, 1000);
        x.go(1, 0, 1000);
        for (int page = 0; page < 6; page++) fill(x, page, "abababab");
        x.first();
        due("the greatest", x.all(), 6L * 299 * 4000);
        x.go(0, 1, 0);
        due("it follows GO", x.all(), 6L * (150 * 2000 + 149 * 4000));
        x.tear(0);
        due("it follows PAGES", x.all(), 5L * (150 * 2000 + 149 * 4000));

        says("-3: there is none.");
        x = even(2, "ab", 2, 1);
        due("at first", x.all(), -3);
        x.search();
        due("FOUND is none", x.all(), -3);
        x.take();
        due("taken", x.all(), 1);
        x.fix(0, NONE);
        due("it went", x.all(), -3);
    }

    private static void promiseShare() {
        of("Promise 15");
        says("A LETTER's SHARE.");
        KeySetter x = plain(3, TEXT, WAYS);
        x.first();
        x.put(0, 1);
        // ab 2 * 3, bc 2, ca 6
        due("a", x.share(0), 12);
        due("b", x.share(1), 8);
        due("c", x.share(2), 8);
        x = even(10, "abaaajj", 10, 7);
        x.first();
        due("the last: aj", x.share(9), 7);
        due("one that is nowhere", x.share(8), 0);
        says("BAD: -2;");
        for (int n : new int[] {1, 6, 10}) {
            x = plain(n, "", 12);
            for (int l : outside(0, n - 1)) due("share(" + l + ") without a SETTING", x.share(l), -2);
            x.first();
            for (int l : outside(0, n - 1)) due("share(" + l + ")", x.share(l), -2);
        }
        says("-3: there is no SETTING.");
        x = plain(2, "ab", 2);
        due("at first", x.share(0), -3);
        x.search();
        due("FOUND is none", x.share(1), -3);
        x.first();
        due("there is one", x.share(1), 0);
        x.letters(2);
        due("it went", x.share(1), -3);
    }

    private static void promiseBetter() {
        of("Promise 16");
        says("TO BETTER: how many CHANGES were done.");
        KeySetter x = started(1, "a", new int[][] {{5, 5}, {5, 0}});
        due("one LETTER", x.better(), 0);
        due("it stays", x.at(0), 0);
        x = started(2, "ab", new int[][] {{0, 2}, {1, 0}});
        due("one", x.better(), 1);
        due("none any more", x.better(), 0);
        x = started(4, "ab cd", new int[][] {{0, 5, 9, 9}, {3, 0, 9, 9}, {9, 9, 0, 5}, {9, 9, 3, 0}});
        due("two", x.better(), 2);
        dueAt("both", x, 1, 0, 3, 2);
        x = plain(2, "ab", new int[][] {{0, 2}, {1, 0}});
        x.fix(0, 0);
        x.fix(1, 1);
        x.first();
        due("all FIXED", x.better(), 0);
        says("NO: there is no SETTING.");
        x = plain(2, "ab", 2);
        due("at first", x.better(), NO);
        x.search();
        due("FOUND is none", x.better(), NO);
        x.first();
        x.fix(0, NONE);
        due("it went", x.better(), NO);
    }

    private static void promiseChange() {
        of("Promise 17");
        says("What an exchange of two LETTERS would change of the COST.");
        KeySetter x = started(3, TEXT, WAYS);
        int[][] changes = {{0, 3, 6}, {3, 0, 2}, {6, 2, 0}};
        for (int a = 0; a < 3; a++) for (int b = 0; b < 3; b++) if (a != b) due(a + " and " + b, x.change(a, b), changes[a][b]);
        x.put(0, 1);
        due("less", x.change(1, 0), -3);
        due("the COST is as it was", x.all(), 14);
        x = new KeySetter();
        x.letters(2);
        x.key(3, 1000);
        x.key(0, 0);
        x.go(1, 0, 1000);
        for (int page = 0; page < 6; page++) fill(x, page, "a-b--ab-");
        x.first();
        due("more", x.change(0, 1), 6L * 37 * 4000);
        x.put(0, 1);
        due("less", x.change(0, 1), -6L * 37 * 4000);

        says("BAD: also they are one: 1000000000;");
        for (int n : new int[] {1, 6, 10}) {
            x = plain(n, "", 12);
            for (int round = 0; round < 2; round++) {
                for (int l : outside(0, n - 1)) {
                    due("change(" + l + ", 0)", x.change(l, 0), CHANGE_BAD);
                    due("change(0, " + l + ")", x.change(0, l), CHANGE_BAD);
                    due("change(" + l + ", " + l + ")", x.change(l, l), CHANGE_BAD);
                }
                for (int l = 0; l < n; l++) due("one", x.change(l, l), CHANGE_BAD);
                x.first();
            }
            x.fix(0, 0);
            x.first();
            due("one that is FIXED", x.change(0, 0), CHANGE_BAD);
        }

        says("NO: there is no SETTING, or one is FIXED: 1000000001.");
        x = plain(3, TEXT, WAYS);
        due("no SETTING", x.change(0, 1), CHANGE_NO);
        x.search();
        due("FOUND is none", x.change(0, 1), CHANGE_NO);
        x.fix(2, 2);
        x.first();
        due("the second is", x.change(0, 2), CHANGE_NO);
        due("the first is", x.change(2, 1), CHANGE_NO);
        due("none is", x.change(0, 1), 3);
        x.fix(1, 1);
        x.first();
        due("both are", x.change(1, 2), CHANGE_NO);
        x.letters(3);
        due("it went", x.change(0, 1), CHANGE_NO);
    }

    // ---- promises 18 to 27

    private static void promiseSearch() {
        of("Promise 18");
        says("THE SEARCH: 1.");
        due("as many KEYS as LETTERS", even(7, "fg", 7, 5).search(), 1);
        due("one LETTER", plain(1, "", 12).search(), 1);
        due("ten LETTERS", plain(10, "", 12).search(), 1);
        KeySetter x = even(2, "ab", 3, 5);
        x.fix(0, 2);
        x.fix(1, 0);
        x.go(2, 0, 9);
        due("all FIXED", x.search(), 1);
        due("there is no other", x.least(), 9);

        says("NO: there are fewer KEYS than LETTERS;");
        for (int n = 1; n <= 10; n++) {
            x = plain(n, "", n - 1);
            due("one too few of " + n, x.search(), NO);
            due("nothing FOUND", x.least(), -1);
            x.key(0, 0);
            due("as many as " + n, x.search(), 1);
        }

        says("SPENT (what it FOUND by then stays FOUND).");
        x = even(7, "fg", 8, 5);
        due("SPENT", x.search(), SPENT);
        due("FOUND", x.least(), 5);
        due("no SETTING by that", x.at(0), NO);
        due("take()", x.take(), 1);
        dueAt("FOUND at first", x, 0, 1, 2, 3, 4, 5, 6);
        x.go(7, 6, 4);
        due("what was FOUND went", x.least(), -1);
        due("SPENT again", x.search(), SPENT);
        due("FOUND", x.least(), 4);
        dueAt("the SETTING is as it was", x, 0, 1, 2, 3, 4, 5, 6);
        x.take();
        dueAt("FOUND later", x, 0, 1, 2, 3, 4, 7, 6);
        // a on 0 only, as 20000 TRIES do not reach a on 7
        x = even(7, "fg", 8, 5);
        x.go(1, 0, 0);
        due("SPENT before a leaves 0", x.search(), SPENT);
        due("what it did not reach", x.least(), 5);
        x.fix(5, 1);
        due("with less to do", x.search(), 1);
        due("the least", x.least(), 0);
    }

    private static void promiseLeast() {
        of("Promise 19");
        says("The COST of what was FOUND in the latest search() that was not NO.");
        KeySetter x = even(2, "ab", 2, 5);
        x.search();
        due("FOUND", x.least(), 5);
        x.go(1, 0, 0);
        x.search();
        due("the latest", x.least(), 0);
        x.first();
        due("not the SETTING's", x.least(), 0);
        due("the SETTING's", x.all(), 5);
        says("-1: nothing, or it went.");
        x = plain(1, "", 0);
        due("nothing", x.least(), -1);
        due("NO", x.search(), NO);
        due("nothing by that", x.least(), -1);
        x.key(0, 0);
        x.search();
        due("a COST of 0 is not nothing", x.least(), 0);
        x.letters(1);
        due("it went", x.least(), -1);
        x.search();
        due("found anew", x.least(), 0);
        x.letters(2);
        due("NO", x.search(), NO);
        due("nothing", x.least(), -1);
    }

    private static void promiseTake() {
        of("Promise 20");
        says("What was FOUND becomes the SETTING: 1.");
        KeySetter x = plain(2, "ab", new int[][] {{0, 5}, {3, 0}});
        x.search();
        due("without a SETTING before", x.take(), 1);
        dueAt("taken", x, 1, 0);
        due("there is one", x.count(6), 1);
        due("its COST is the least", x.all(), x.least());
        x.put(0, 0);
        due("with one before", x.take(), 1);
        dueAt("what was FOUND is not moved", x, 1, 0);
        due("it stays FOUND", x.least(), 3);
        x = plain(10, "", 12);
        x.fix(9, 0);
        x.search();
        x.take();
        dueAt("ten", x, 1, 2, 3, 4, 5, 6, 7, 8, 9, 0);
        says("NO: there is nothing FOUND.");
        x = even(2, "ab", 2, 5);
        due("before any search()", x.take(), NO);
        due("no SETTING", x.count(6), 0);
        x.search();
        x.key(0, 0);
        due("it went", x.take(), NO);
        x.first();
        x.put(0, 2);
        due("with a SETTING", x.take(), NO);
        dueAt("as it was", x, 2, 1);
    }

    private static void promiseTries() {
        of("Promise 21");
        says("How many TRIES the latest search() made;");
        KeySetter x = even(3, "ab", 3, 5);
        x.search();
        due("tries", x.tries(), 10);
        x.go(2, 1, 4);
        due("they stay as FOUND goes", x.tries(), 10);
        x.search();
        due("of the latest", x.tries(), 11);
        x.letters(1);
        due("they stay", x.tries(), 11);
        x.search();
        due("fewer", x.tries(), 3);
        x.letters(4);
        due("NO", x.search(), NO);
        due("refused, changing nothing", x.tries(), 3);
        x = even(6, "ef", 8, 5);
        x.search();
        due("SPENT", x.tries(), 20000);
        x.letters(1);
        x.search();
        due("after SPENT", x.tries(), 8);
        says("0 before any.");
        x = plain(2, "ab", 1);
        due("at first", x.tries(), 0);
        x.first();
        x.better();
        x.bound();
        x.turns();
        due("by other calls", x.tries(), 0);
        due("NO", x.search(), NO);
        due("by NO", x.tries(), 0);
    }

    private static void promiseBound() {
        of("Promise 22");
        says("THE BOUND.");
        KeySetter x = plain(3, STAR, STAR_WAYS);
        due("bound", x.bound(), 10);
        due("with a SETTING", x.first() + x.bound(), 11);
        due("without PAGES", x.tear(0) - 10 + x.bound(), 0);
        due("one LETTER", plain(1, "aa", new int[][] {{9}}).bound(), 0);
        x = even(10, "abcdefghij", 12, 1);
        due("ten LETTERS, nine with one behind", x.bound(), 9);
        for (int l = 0; l < 10; l++) x.fix(l, 11 - l);
        for (int k = 0; k < 12; k++) x.go(11, k, 3);
        due("all FIXED, a on 11", x.bound(), 8 + 3);
        says("-3: there are fewer KEYS than LETTERS.");
        for (int n = 1; n <= 10; n++) {
            x = plain(n, "", n - 1);
            due("one too few of " + n, x.bound(), -3);
            x.key(0, 0);
            due("as many as " + n, x.bound(), 0);
        }
    }

    private static void promisePrice() {
        of("Promise 23");
        says("The PRICE of a LETTER on a KEY.");
        KeySetter x = even(10, "jajbjcjdjejfjgjhjij", 12, 2);
        due("the last LETTER on the last KEY", x.price(9, 11), 18);
        due("the first on the first", x.price(0, 0), 2);
        for (int k = 0; k < 12; k++) x.go(11, k, 10 + k);
        due("the nine cheapest, not itself", x.price(9, 11), 90 + 36);
        x.go(11, 11, 0);
        due("not itself", x.price(9, 11), 90 + 36);
        x.go(11, 10, 0);
        due("the nine cheapest", x.price(9, 11), 80 + 28);
        says("BAD: -2;");
        for (int n : new int[] {1, 6, 10}) {
            for (int keys : new int[] {n - 1, n, 12}) {
                x = plain(n, "", keys);
                for (int l : outside(0, n - 1)) due("price(" + l + ", 0)", x.price(l, 0), -2);
                for (int k : outside(0, keys - 1)) due("price(0, " + k + ")", x.price(0, k), -2);
            }
        }
        says("-3: there are fewer KEYS than LETTERS.");
        for (int n = 2; n <= 10; n++) {
            x = plain(n, "", n - 1);
            due("one too few of " + n, x.price(n - 1, n - 2), -3);
            x.key(0, 0);
            due("as many as " + n, x.price(n - 1, n - 2), 0);
        }
    }

    private static void promiseTurns() {
        of("Promise 24");
        says("How many TURNS there are.");
        KeySetter x = new KeySetter();
        int[] orders = {0, 1, 2, 6, 24, 120, 720, 5040};
        for (int k = 1; k <= 7; k++) {
            x.key(3, 1000);
            due(k + " like KEYS", x.turns(), orders[k]);
        }
        x.go(6, 6, 1);
        due("the last is another", x.turns(), 720);
        x.go(6, 5, 1);
        due("and the last but one", x.turns(), 120);
        says("NO: more than 7 KEYS, or none.");
        x = new KeySetter();
        due("none", x.turns(), NO);
        for (int k = 1; k <= 12; k++) {
            x.key(k % 4, k);
            due(k + " KEYS", x.turns(), k <= 7 ? 1 : NO);
        }
    }

    private static void promiseAlike() {
        of("Promise 25");
        says("Whether a TURN leads the SETTING (each LETTER's KEY) to what was FOUND: 1, 0.");
        KeySetter x = plain(2, "ab", new int[][] {{0, 1, 0}, {0, 0, 1}, {1, 0, 0}});
        x.search();
        // FOUND is 0, 2; the ring leads 1, 0 and 2, 1 there
        int[][] settings = {{0, 1, 0}, {0, 2, 1}, {1, 0, 1}, {1, 2, 0}, {2, 0, 0}, {2, 1, 1}};
        for (int[] s : settings) {
            x.first();
            x.put(0, s[0]);
            x.put(1, s[1]);
            dueAt("put", x, s[0], s[1]);
            due("alike()", x.alike(), s[2]);
        }
        // like COSTS, but no TURN: KEYS 0 and 1 are of unlike KINDS
        x = kinds(0, 0, 1, 0);
        x.letters(1);
        x.search();
        x.first();
        due("itself", x.alike(), 1);
        x.put(0, 1);
        due("of another KIND", x.alike(), 0);
        x = plain(1, "", 7);
        x.search();
        x.first();
        x.put(0, 6);
        due("7 KEYS", x.alike(), 1);
        x = plain(7, "", 7);
        x.search();
        x.first();
        x.put(0, 6);
        due("7 LETTERS", x.alike(), 1);

        says("NO: there is no SETTING, nothing FOUND, or more than 7 KEYS.");
        x = plain(2, "ab", 7);
        due("neither", x.alike(), NO);
        x.search();
        due("no SETTING", x.alike(), NO);
        x.first();
        due("both", x.alike(), 1);
        x.feed(0, 0, 1);
        due("nothing FOUND", x.alike(), NO);
        x.search();
        due("both", x.alike(), 1);
        x.key(0, 0);
        x.search();
        due("8 KEYS", x.alike(), NO);
        x = plain(2, "", 12);
        x.search();
        x.take();
        due("12 KEYS", x.alike(), NO);
        due("no KEYS", new KeySetter().alike(), NO);
    }

    private static void promiseCount() {
        of("Promise 26");
        says("How many: 0 LETTERS, 1 KEYS, 2 PAGES that are there, 3 signs of these, 4 pairs counted by OFTEN, 5 LETTERS that are FIXED, 6 whether there is a SETTING (1, 0).");
        KeySetter x = new KeySetter();
        dueCounts("new", x, 6, 0, 0, 0, 0, 0, 0);
        x.letters(1);
        dueCounts("one LETTER", x, 1, 0, 0, 0, 0, 0, 0);
        feedText(x, 5, "aab");
        dueCounts("a PAGE", x, 1, 0, 1, 3, 1, 0, 0);
        x.key(0, 0);
        dueCounts("a KEY", x, 1, 1, 1, 3, 1, 0, 0);
        x.fix(0, 0);
        dueCounts("FIXED", x, 1, 1, 1, 3, 1, 1, 0);
        x.first();
        dueCounts("a SETTING", x, 1, 1, 1, 3, 1, 1, 1);
        x.search();
        dueCounts("FOUND", x, 1, 1, 1, 3, 1, 1, 1);
        x.tear(5);
        dueCounts("torn", x, 1, 1, 0, 0, 0, 1, 1);
        x.fix(0, NONE);
        dueCounts("not FIXED", x, 1, 1, 0, 0, 0, 0, 0);
        x = plain(10, "", 12);
        for (int page = 0; page < 6; page++) fill(x, page, "abcdefgh");
        for (int l = 0; l < 10; l++) x.fix(l, l);
        x.first();
        dueCounts("full", x, 10, 12, 6, 1800, 1794, 10, 1);
        x.letters(2);
        dueCounts("only ab", x, 2, 12, 6, 1800, 6 * 38, 0, 0);
        says("BAD.");
        for (int what : outside(0, 6)) due("count(" + what + ")", x.count(what), BAD);
    }

    private static void dueCounts(String when, KeySetter x, int... counts) {
        for (int what = 0; what < counts.length; what++) due("count(" + what + ") " + when, x.count(what), counts[what]);
    }

    private static void promiseDigest() {
        of("Promise 27");
        says("h = 59; then h = 31 h + v for each v: count(0) to count(6); OFTEN of all LETTERS; THE COST of all KEYS; KEYS of the SETTING; least().");
        KeySetter x = new KeySetter();
        due("new", x.digest(), reckoned(x, 6, 0));
        x.letters(1);
        due("one LETTER, by hand", x.digest(), mixed(1, 0, 0, 0, 0, 0, 0, 0, -1));
        x.key(2, 7);
        x.go(0, 0, 1);
        feedText(x, 0, "aa");
        due("a KEY, by hand", x.digest(), mixed(1, 1, 1, 2, 1, 0, 0, 1, 8, -1));
        x.first();
        due("a SETTING, by hand", x.digest(), mixed(1, 1, 1, 2, 1, 0, 1, 1, 8, 0, -1));
        x.search();
        due("FOUND, by hand", x.digest(), mixed(1, 1, 1, 2, 1, 0, 1, 1, 8, 0, 0));
        x = plain(3, TEXT, WAYS);
        due("three LETTERS", x.digest(), reckoned(x, 3, 3));
        x.search();
        due("FOUND without a SETTING", x.digest(), reckoned(x, 3, 3));
        x.first();
        x.put(0, 2);
        due("both", x.digest(), reckoned(x, 3, 3));
        x = even(10, "abcdefghijij", 12, 1000);
        x.go(3, 4, 17);
        x.fix(9, 0);
        x.first();
        x.search();
        due("ten LETTERS and twelve KEYS, wrapped around", x.digest(), reckoned(x, 10, 12));
        due("it changes nothing", x.digest(), reckoned(x, 10, 12));
    }

    /** The digest in numbers that do not wrap around, cut to a long at the end. */
    private static long reckoned(KeySetter x, int letters, int keys) {
        List<Long> all = new ArrayList<>();
        for (int what = 0; what <= 6; what++) all.add((long) x.count(what));
        for (int a = 0; a < letters; a++) for (int b = 0; b < letters; b++) all.add((long) x.often(a, b));
        for (int i = 0; i < keys; i++) for (int k = 0; k < keys; k++) all.add((long) x.cost(i, k));
        if (x.count(6) == 1) for (int l = 0; l < letters; l++) all.add((long) x.at(l));
        all.add(x.least());
        BigInteger h = BigInteger.valueOf(59);
        for (long v : all) h = h.multiply(BigInteger.valueOf(31)).add(BigInteger.valueOf(v));
        return h.longValue();
    }

    // ---- what goes and what stays

    private static final int SETTING = 1, FIXED = 2, FOUND = 4, TRIES = 8, BODIES = 16, ITS_KEYS = 32;

    /** A SETTING 2, 1, 3 with c FIXED on 3, another one FOUND, TRIES, and three BODIES. */
    private static KeySetter busy() {
        KeySetter x = kinds(0, 0, 1, 4, 2, 3, 3, 2, 0, 0);
        x.letters(3);
        feedText(x, 0, TEXT);
        feedText(x, 1, "cb");
        for (int i = 0; i < 5; i++) for (int k = 0; k < 5; k++) x.go(i, k, (3 * i + 5 * k) % 7);
        x.fix(2, 3);
        x.first();
        x.put(0, 2);
        x.search();
        x.cost(0, 3);
        return x;
    }

    /** After the call these are gone (or made anew), and all others of the five are as they were. */
    private static void dueGone(String what, Consumer<KeySetter> call, int gone) {
        KeySetter before = busy();
        KeySetter x = busy();
        call.accept(x);
        if ((gone & TRIES) == 0) due(what + ": tries()", x.tries(), before.tries());
        for (int i = 0; i < 4 && (gone & BODIES) == 0; i++) due(what + ": body()", x.body(i), before.body(i));
        due(what + ": least()", x.least(), (gone & FOUND) == 0 ? before.least() : -1);
        due(what + ": a SETTING", x.count(6), (gone & SETTING) == 0 ? 1 : 0);
        for (int l = 0; l < 3 && (gone & (SETTING | ITS_KEYS)) == 0; l++) due(what + ": at()", x.at(l), before.at(l));
        due(what + ": FIXED", x.count(5), (gone & FIXED) == 0 ? 1 : 0);
        due(what + ": c is FIXED", x.fix(2, NONE), (gone & FIXED) == 0 ? 3 : NONE);
    }

    private static void whatGoesAndStays() {
        of("What it is");
        sentence = "what goes and what stays";
        asked = 0;
        KeySetter busy = busy();
        due("TRIES are there", busy.tries() > 0 ? 1 : 0, 1);
        due("the SETTING is not what was FOUND", busy.all() > busy.least() ? 1 : 0, 1);
        dueGone("letters", x -> x.letters(3), SETTING | FIXED | FOUND);
        dueGone("feed", x -> x.feed(5, 0, 1), FOUND);
        dueGone("tear", x -> x.tear(1), FOUND);
        dueGone("key", x -> x.key(0, 0), FOUND);
        dueGone("go", x -> x.go(4, 4, 9), FOUND);
        dueGone("fix", x -> x.fix(0, NONE), SETTING | FOUND);
        dueGone("cost", x -> x.cost(0, 0), BODIES);
        dueGone("search", KeySetter::search, 0);
        dueGone("putting it where it is", x -> x.put(0, 2), 0);
        dueGone("put", x -> x.put(0, 0), ITS_KEYS);
        dueGone("first", KeySetter::first, ITS_KEYS);
        dueGone("better", KeySetter::better, ITS_KEYS);
        dueGone("take", KeySetter::take, ITS_KEYS);
        dueGone("all calls that only look", BoundaryTest::lookAtAll, 0);
    }

    private static void lookAtAll(KeySetter x) {
        x.often(0, 1);
        x.body(0);
        x.at(0);
        x.all();
        x.share(0);
        x.change(0, 1);
        x.least();
        x.tries();
        x.bound();
        x.price(0, 0);
        x.turns();
        x.alike();
        x.count(4);
        x.digest();
    }

    // ---- the quotes beside the document

    private static String sectionOf(String document, String name) {
        int from = document.indexOf("\n## " + name);
        if (from < 0) return null;
        int to = document.indexOf("\n## ", from + 1);
        String text = document.substring(document.indexOf('\n', from + 1), to < 0 ? document.length() : to);
        return text.replaceAll("Ahead of the calls [^\n]*", " ").replaceAll("```(text)?", " ").replaceAll("\n`[^`]*`:", " ")
            .replaceAll("\\s+", " ");
    }

    private static List<String> headingsOf(String document) {
        List<String> headings = new ArrayList<>();
        for (String line : document.split("\n")) if (line.startsWith("## ")) headings.add(line.substring(3).replaceAll(":.*", ""));
        return headings;
    }

    private static void layBeside(String document) {
        List<String> names = new ArrayList<>(quotes.keySet());
        for (String heading : headingsOf(document)) {
            boolean tested = names.contains(heading) || HEADINGS_WITHOUT_CALLS.contains(heading);
            if (!tested) fail("no test of what stands under " + heading);
        }
        for (String name : names) {
            String rest = sectionOf(document, name.startsWith("Promise") ? name + ":" : name);
            if (rest == null) {
                fail("the document has no " + name);
                continue;
            }
            for (String quote : quotes.get(name)) {
                int place = rest.indexOf(quote);
                if (place < 0) fail("the document does not say this in " + name + ": " + quote);
                else rest = rest.substring(0, place) + "|" + rest.substring(place + quote.length());
            }
            if (!rest.replaceAll("[|\\s]", "").isEmpty()) fail("not quoted of " + name + ": " + rest);
        }
    }

    public static void main(String[] args) throws IOException {
        whatItIs();
        anObject();
        termsOfPages();
        termsOfKeys();
        termsOfSettings();
        termsOfBettering();
        termsOfTheSearch();
        termsOfTheBound();
        termsOfTurns();
        termsOfRefusing();
        promiseNewObject();
        promiseLetters();
        promiseFeed();
        promiseTear();
        promiseOften();
        promiseKey();
        promiseGo();
        promiseCost();
        promiseBody();
        promiseFix();
        promiseFirst();
        promisePut();
        promiseAt();
        promiseAll();
        promiseShare();
        promiseBetter();
        promiseChange();
        promiseSearch();
        promiseLeast();
        promiseTake();
        promiseTries();
        promiseBound();
        promisePrice();
        promiseTurns();
        promiseAlike();
        promiseCount();
        promiseDigest();
        whatGoesAndStays();
        Path document = Path.of("../shared/DOC.md");
        if (Files.exists(document)) layBeside(Files.readString(document));
        else System.out.println("the document is not there, so the quotes are not laid beside it");
        System.out.println(wrong == 0 ? "every sentence holds" : wrong + " things are not as due");
        if (wrong != 0) System.exit(1);
    }
}
