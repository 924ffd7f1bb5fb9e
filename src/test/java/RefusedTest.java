import java.util.ArrayList;
import java.util.List;
import java.util.function.Consumer;

/**
 * "Refused, changing nothing, the first of: BAD, NO, FULL, SPENT": in a number of states, calls of every method with
 * numbers at and beyond the bounds are made on one of two like objects, if they are due to be refused or only look. What
 * is refused answers as told, and after each batch of them all calls answer on this object as on the other one.
 */
public final class RefusedTest {
    private static final long BAD = -2, NO = -3, FULL = -4, SPENT = -5;
    private static final long CHANGE_BAD = 1000000000L, CHANGE_NO = 1000000001L;
    private static final int LEAST = Integer.MIN_VALUE, GREATEST = Integer.MAX_VALUE;
    private static final int BATCH = 25;
    // An object is used for 512 calls, of which no state's maker needs more than 200.
    private static final int MOST_CALLS_OF_A_LOOK = 512 - 200 - BATCH;
    private static int wrong = 0;
    private static int refused = 0;
    private static int looked = 0;

    private static void fail(String what) {
        wrong++;
        if (wrong <= 20) System.out.println(what);
    }

    private interface Call {
        long on(KeySetter x);
    }

    /** A call that changes nothing, with the answer that is due if it is refused. */
    private record Step(String told, Call call, boolean isRefused, long due) {}

    /** How to make an object, and what is so of it then. */
    private static final class State {
        final String name;
        final Consumer<KeySetter> maker;
        int letters = 6;
        int keys = 0;
        int[] lengths = new int[6];
        int fixedLetter = -1;
        int fixedKey = -1;
        boolean setting = false;
        boolean found = false;

        State(String name, Consumer<KeySetter> maker) {
            this.name = name;
            this.maker = maker;
        }

        KeySetter make() {
            KeySetter x = new KeySetter();
            maker.accept(x);
            return x;
        }

        State has(int letters, int keys, int... lengths) {
            this.letters = letters;
            this.keys = keys;
            System.arraycopy(lengths, 0, this.lengths, 0, lengths.length);
            return this;
        }

        State fixed(int letter, int key) {
            fixedLetter = letter;
            fixedKey = key;
            return this;
        }

        State with(boolean setting, boolean found) {
            this.setting = setting;
            this.found = found;
            return this;
        }

        boolean letter(int l) { return l >= 0 && l < letters; }
        boolean key(int k) { return k >= 0 && k < keys; }
        boolean page(int p) { return p >= 0 && p < 6; }
        boolean tooFew() { return keys < letters; }
    }

    // ---- the states

    private static final long SIGNS = 0x6162636161626163L;

    private static void keys(KeySetter x, int letters, int keys) {
        x.letters(letters);
        for (int k = 0; k < keys; k++) x.key(k % 4, 3 * k);
        for (int k = 0; k < keys; k++) {
            x.go(k, (k + 1) % keys, 4 + k);
            x.go((k + 2) % keys, k, 9 - k % 5);
            x.go(k, k, k);
        }
        if (keys > 0) x.cost(0, keys - 1);
    }

    private static void pages(KeySetter x) {
        x.feed(0, SIGNS, 8);
        x.feed(0, SIGNS >> 8, 3);
        x.feed(5, 0x6362, 2);
    }

    private static void fillPage(KeySetter x, int page, int signs) {
        for (int has = 0; has < signs; has += 8) x.feed(page, 0x6A6961626A686766L, Math.min(8, signs - has));
    }

    private static void busy(KeySetter x, int letters, int keys) {
        keys(x, letters, keys);
        pages(x);
        x.fix(1, keys - 1);
        x.first();
        x.put(0, x.at(letters - 1));
        x.search();
    }

    private static void full(KeySetter x) {
        x.letters(10);
        for (int k = 0; k < 12; k++) x.key(k % 2 * 3, 1000);
        for (int k = 0; k < 12; k++) x.go(k, (k + 5) % 12, 1000);
        fillPage(x, 0, 300);
        fillPage(x, 1, 299);
        fillPage(x, 2, 293);
        fillPage(x, 3, 292);
        x.feed(4, SIGNS, 8);
        x.feed(5, 'a', 1);
        x.fix(9, 0);
        x.first();
        x.put(0, 11);
    }

    private static List<State> states() {
        List<State> all = new ArrayList<>();
        all.add(new State("new", x -> {}));
        all.add(new State("PAGES alone", RefusedTest::pages).has(6, 0, 11, 0, 0, 0, 0, 2));
        all.add(new State("too few KEYS", x -> {
            busy(x, 3, 5);
            x.letters(6);
            x.fix(2, 4);
        }).has(6, 5, 11, 0, 0, 0, 0, 2).fixed(2, 4));
        all.add(new State("no SETTING, nothing FOUND", x -> {
            busy(x, 3, 5);
            x.fix(1, 0);
        }).has(3, 5, 11, 0, 0, 0, 0, 2).fixed(1, 0));
        all.add(new State("a SETTING alone", x -> {
            busy(x, 3, 5);
            x.go(0, 0, 7);
        }).has(3, 5, 11, 0, 0, 0, 0, 2).fixed(1, 4).with(true, false));
        all.add(new State("FOUND alone", x -> {
            busy(x, 3, 5);
            x.fix(1, 4);
            x.search();
        }).has(3, 5, 11, 0, 0, 0, 0, 2).fixed(1, 4).with(false, true));
        all.add(new State("a SETTING and FOUND, 7 KEYS", x -> busy(x, 4, 7)).has(4, 7, 11, 0, 0, 0, 0, 2).fixed(1, 6).with(true, true));
        all.add(new State("a SETTING and FOUND, 8 KEYS", x -> busy(x, 4, 8)).has(4, 8, 11, 0, 0, 0, 0, 2).fixed(1, 7).with(true, true));
        all.add(new State("one LETTER on one KEY", x -> {
            keys(x, 1, 1);
            x.feed(3, SIGNS, 8);
            x.first();
            x.search();
        }).has(1, 1, 0, 0, 0, 8).with(true, true));
        all.add(new State("full", RefusedTest::full).has(10, 12, 300, 299, 293, 292, 8, 1).fixed(9, 0).with(true, false));
        all.add(new State("full and SPENT", x -> {
            full(x);
            x.search();
        }).has(10, 12, 300, 299, 293, 292, 8, 1).fixed(9, 0).with(true, true));
        return all;
    }

    // ---- the calls that change nothing in a state

    private static int[] around(int size, int... more) {
        int[] usual = {LEAST, LEAST + 1, -65536, -2, -1, 0, size - 1, size, size + 1, 65536, GREATEST - 1, GREATEST};
        int[] all = java.util.Arrays.copyOf(usual, usual.length + more.length);
        System.arraycopy(more, 0, all, usual.length, more.length);
        return all;
    }

    private static String told(String name, long... numbers) {
        StringBuilder s = new StringBuilder(name).append('(');
        for (int i = 0; i < numbers.length; i++) s.append(i == 0 ? "" : ", ").append(numbers[i]);
        return s.append(')').toString();
    }

    private static Step refusedWith(long due, String told, Call call) {
        return new Step(told, call, true, due);
    }

    private static Step looking(String told, Call call) {
        return new Step(told, call, false, 0);
    }

    private static Step refusedOrLooking(boolean bad, boolean no, String told, Call call) {
        return bad ? refusedWith(BAD, told, call) : no ? refusedWith(NO, told, call) : looking(told, call);
    }

    private static void addPageCalls(State s, List<Step> all) {
        for (int n : new int[] {LEAST, -1, 0, 11, 12, GREATEST}) all.add(refusedWith(BAD, told("letters", n), x -> x.letters(n)));
        for (int page : around(6, 1, 2, 3, 4)) {
            for (int n : around(9, 1, 4, 7)) {
                for (long w : new long[] {SIGNS, Long.MIN_VALUE, Long.MAX_VALUE}) {
                    boolean bad = !s.page(page) || n < 1 || n > 8;
                    if (bad || s.lengths[page] + n > 300) all.add(refusedWith(bad ? BAD : FULL, told("feed", page, w, n), x -> x.feed(page, w, n)));
                }
            }
            if (!s.page(page)) all.add(refusedWith(BAD, told("tear", page), x -> x.tear(page)));
            else if (s.lengths[page] == 0) all.add(refusedWith(NO, told("tear", page), x -> x.tear(page)));
        }
        for (int a : around(s.letters)) {
            for (int b : around(s.letters)) {
                all.add(refusedOrLooking(!s.letter(a) || !s.letter(b), false, told("often", a, b), x -> x.often(a, b)));
            }
        }
    }

    private static void addKeyCalls(State s, List<Step> all) {
        for (int kind : around(4)) {
            for (int extra : around(1001)) {
                boolean bad = kind < 0 || kind > 3 || extra < 0 || extra > 1000;
                if (bad || s.keys == 12) all.add(refusedWith(bad ? BAD : FULL, told("key", kind, extra), x -> x.key(kind, extra)));
            }
        }
        for (int i : around(s.keys)) {
            for (int k : around(s.keys)) {
                boolean bad = !s.key(i) || !s.key(k);
                for (int c : new int[] {LEAST, -1, 0, 5, 1000, 1001, GREATEST}) {
                    if (bad || c < 0 || c > 1000) all.add(refusedWith(BAD, told("go", i, k, c), x -> x.go(i, k, c)));
                }
                if (bad) all.add(refusedWith(BAD, told("cost", i, k), x -> x.cost(i, k)));
            }
        }
        for (int i : around(3)) {
            if (i < 0 || i > 2) all.add(refusedWith(-1, told("body", i), x -> x.body(i)));
            else all.add(looking(told("body", i), x -> x.body(i)));
        }
    }

    private static void addSettingCalls(State s, List<Step> all) {
        for (int l : around(s.letters, s.fixedLetter)) {
            for (int k : around(s.keys, s.fixedKey)) {
                boolean bad = !s.letter(l) || (k != -1 && !s.key(k));
                boolean taken = k != -1 && k == s.fixedKey && l != s.fixedLetter;
                if (bad || taken) all.add(refusedWith(bad ? BAD : NO, told("fix", l, k), x -> x.fix(l, k)));
                bad = !s.letter(l) || !s.key(k);
                boolean no = !s.setting || l == s.fixedLetter || k == s.fixedKey;
                if (bad || no) all.add(refusedWith(bad ? BAD : NO, told("put", l, k), x -> x.put(l, k)));
                all.add(refusedOrLooking(bad, s.tooFew(), told("price", l, k), x -> x.price(l, k)));
            }
            for (int m : around(s.letters, s.fixedLetter)) {
                boolean bad = !s.letter(l) || !s.letter(m) || l == m;
                boolean no = !s.setting || l == s.fixedLetter || m == s.fixedLetter;
                String told = told("change", l, m);
                if (bad || no) all.add(refusedWith(bad ? CHANGE_BAD : CHANGE_NO, told, x -> x.change(l, m)));
                else all.add(looking(told, x -> x.change(l, m)));
            }
            all.add(refusedOrLooking(!s.letter(l), !s.setting, told("at", l), x -> x.at(l)));
            all.add(refusedOrLooking(!s.letter(l), !s.setting, told("share", l), x -> x.share(l)));
        }
        all.add(refusedOrLooking(false, !s.setting, "all()", KeySetter::all));
        if (!s.setting) all.add(refusedWith(NO, "better()", KeySetter::better));
        if (s.tooFew()) all.add(refusedWith(NO, "first()", KeySetter::first));
    }

    private static void addLeastCalls(State s, List<Step> all) {
        if (s.tooFew()) all.add(refusedWith(NO, "search()", KeySetter::search));
        if (!s.found) all.add(refusedWith(NO, "take()", KeySetter::take));
        if (!s.found) all.add(refusedWith(-1, "least()", KeySetter::least));
        else all.add(looking("least()", KeySetter::least));
        all.add(refusedOrLooking(false, s.tooFew(), "bound()", KeySetter::bound));
        all.add(refusedOrLooking(false, s.keys < 1 || s.keys > 7, "turns()", KeySetter::turns));
        all.add(refusedOrLooking(false, !s.setting || !s.found || s.keys > 7, "alike()", KeySetter::alike));
        for (int what : around(7)) all.add(refusedOrLooking(what < 0 || what > 6, false, told("count", what), x -> x.count(what)));
        all.add(looking("tries()", KeySetter::tries));
        all.add(looking("digest()", KeySetter::digest));
    }

    // ---- looks at an object, each of them at a fresh one

    private static final class Notes {
        final KeySetter x;
        final List<String> calls = new ArrayList<>();
        final List<Long> answers = new ArrayList<>();

        Notes(KeySetter x) {
            this.x = x;
        }

        void ask(String told, Call call) {
            calls.add(told);
            answers.add(call.on(x));
        }

        void askAll(String when, int letters) {
            for (int l = 0; l < letters; l++) {
                int letter = l;
                ask("at(" + l + ") " + when, y -> y.at(letter));
            }
            ask("all() " + when, KeySetter::all);
        }
    }

    private interface Look {
        void at(State s, Notes notes);
    }

    private static void lookAtFound(State s, Notes n) {
        n.ask("least()", KeySetter::least);
        n.ask("tries()", KeySetter::tries);
        n.ask("alike()", KeySetter::alike);
        n.ask("digest()", KeySetter::digest);
        n.ask("take()", KeySetter::take);
        n.askAll("after take()", s.letters);
    }

    private static void lookAtStillThings(State s, Notes n) {
        for (int i = -1; i <= 7; i++) {
            int what = i;
            n.ask(told("count", i), x -> x.count(what));
            n.ask(told("body", i), x -> x.body(what));
        }
        n.askAll("", s.letters);
        n.ask("bound()", KeySetter::bound);
        n.ask("turns()", KeySetter::turns);
        for (int i = 0; i < s.letters; i++) {
            int a = i;
            n.ask(told("share", a), x -> x.share(a));
            for (int k = 0; k < s.letters; k++) {
                int b = k;
                n.ask(told("change", a, b), x -> x.change(a, b));
                n.ask(told("often", a, b), x -> x.often(a, b));
            }
        }
    }

    private static void lookAtPrices(State s, Notes n) {
        for (int i = 0; i < s.letters; i++) {
            for (int k = 0; k < s.keys; k++) {
                int letter = i, key = k;
                n.ask(told("price", i, k), x -> x.price(letter, key));
            }
        }
    }

    private static void lookAtCosts(State s, Notes n) {
        for (int a = 0; a < s.keys; a++) {
            for (int b = 0; b < s.keys; b++) {
                int i = a, k = b;
                n.ask(told("cost", i, k), x -> x.cost(i, k));
            }
        }
        for (int i = 0; i < 4; i++) {
            int body = i;
            n.ask(told("body", i), x -> x.body(body));
        }
    }

    private static void lookAtGoings(State s, Notes n) {
        for (int a = 0; a < s.keys; a++) {
            for (int b = 0; b < s.keys; b++) {
                int i = a, k = b;
                n.ask(told("go", i, k, 1), x -> x.go(i, k, 1));
            }
        }
    }

    private static void lookAtBettering(State s, Notes n) {
        n.ask("better()", KeySetter::better);
        n.askAll("after better()", s.letters);
        n.ask("put(0, 1)", x -> x.put(0, 1));
        n.askAll("after put(0, 1)", s.letters);
        n.ask("first()", KeySetter::first);
        n.askAll("after first()", s.letters);
        n.ask("better()", KeySetter::better);
        n.askAll("after better()", s.letters);
        n.ask("search()", KeySetter::search);
        lookAtFound(s, n);
    }

    private static void lookAtChanging(State s, Notes n) {
        for (int l = 0; l < s.letters; l++) {
            int letter = l;
            n.ask(told("fix", l, -1), x -> x.fix(letter, -1));
        }
        n.ask("key(1, 1)", x -> x.key(1, 1));
        n.ask("first()", KeySetter::first);
        n.ask("search()", KeySetter::search);
        lookAtFound(s, n);
        n.ask("letters(10)", x -> x.letters(10));
        for (int p = 0; p < 6; p++) {
            int page = p;
            n.ask(told("feed", p, 'a', 1), x -> x.feed(page, 'a', 1));
        }
        for (int i = 0; i < 100; i++) {
            int a = i / 10, b = i % 10;
            n.ask(told("often", a, b), x -> x.often(a, b));
        }
        for (int p = 0; p < 6; p++) {
            int page = p;
            n.ask(told("tear", p), x -> x.tear(page));
            n.ask("count(4)", x -> x.count(4));
        }
        n.ask("digest()", KeySetter::digest);
    }

    private static final Look[] LOOKS = {RefusedTest::lookAtFound, RefusedTest::lookAtStillThings,
        RefusedTest::lookAtPrices, RefusedTest::lookAtCosts, RefusedTest::lookAtGoings, RefusedTest::lookAtBettering,
        RefusedTest::lookAtChanging};

    // ---- laying one beside the other

    private static Notes take(Look look, State s, List<Step> steps) {
        Notes notes = new Notes(s.make());
        for (Step step : steps) answer(s, step, notes.x);
        look.at(s, notes);
        return notes;
    }

    private static void answer(State s, Step step, KeySetter x) {
        long got = step.call.on(x);
        if (step.isRefused && got != step.due) {
            fail(s.name + ": " + step.told + " answered " + got + ", due is " + step.due);
        }
    }

    private static String difference(Notes before, Notes after) {
        for (int i = 0; i < before.answers.size(); i++) {
            if (!before.answers.get(i).equals(after.answers.get(i))) {
                return before.calls.get(i) + " answered " + after.answers.get(i) + ", due is " + before.answers.get(i);
            }
        }
        return null;
    }

    private static void checkBatch(State s, List<Step> batch, Look look, Notes before) {
        String whole = difference(before, take(look, s, batch));
        if (whole == null) return;
        for (Step step : batch) {
            String one = difference(before, take(look, s, List.of(step)));
            if (one != null) {
                fail(s.name + ": after " + step.told + " " + one);
                return;
            }
        }
        fail(s.name + ": after " + batch + " " + whole);
    }

    private static void checkState(State s) {
        List<Step> steps = new ArrayList<>();
        addPageCalls(s, steps);
        addKeyCalls(s, steps);
        addSettingCalls(s, steps);
        addLeastCalls(s, steps);
        for (Step step : steps) {
            if (step.isRefused) refused++;
            else looked++;
        }
        for (Look look : LOOKS) {
            Notes before = take(look, s, List.of());
            if (before.calls.size() > MOST_CALLS_OF_A_LOOK) fail("a look has too many calls");
            for (int from = 0; from < steps.size(); from += BATCH) {
                checkBatch(s, steps.subList(from, Math.min(steps.size(), from + BATCH)), look, before);
            }
        }
    }

    /** What the states tell of themselves is so. */
    private static void checkFacts(State s) {
        KeySetter x = s.make();
        boolean so = x.count(0) == s.letters && x.count(1) == s.keys && x.count(5) == (s.fixedLetter < 0 ? 0 : 1);
        so &= x.count(6) == (s.setting ? 1 : 0) && x.least() >= 0 == s.found;
        so &= s.fixedLetter < 0 || x.fix(s.fixedLetter, -1) == s.fixedKey;
        for (int page = 0; page < 6; page++) if (s.lengths[page] > 0) so &= x.tear(page) == s.lengths[page];
        if (!so) fail("the state is not as told: " + s.name);
    }

    /** SPENT is refused, too, but TRIES and what it FOUND by then are there; all else is as before. */
    private static void checkSpent() {
        State s = new State("ahead of SPENT", RefusedTest::full).has(10, 12, 300, 299, 293, 292, 8, 1).fixed(9, 0).with(true, false);
        Step spent = refusedWith(SPENT, "search()", KeySetter::search);
        Look[] looks = {RefusedTest::lookAtStillThings, RefusedTest::lookAtPrices, RefusedTest::lookAtCosts,
            RefusedTest::lookAtGoings, RefusedTest::lookAtBettering, RefusedTest::lookAtChanging};
        for (Look look : looks) checkBatch(s, List.of(spent, spent), look, take(look, s, List.of()));
        KeySetter x = s.make();
        answer(s, spent, x);
        if (x.tries() != 20000) fail("tries() after SPENT");
        long least = x.least();
        if (least < 0) fail("least() after SPENT");
        if (x.take() != 1 || x.all() != least) fail("take() after SPENT");
    }

    public static void main(String[] args) {
        for (State s : states()) {
            checkFacts(s);
            checkState(s);
        }
        checkSpent();
        System.out.println(wrong == 0 ? refused + " refused calls and " + looked + " that look change nothing"
            : wrong + " things are not as due");
        if (wrong != 0) System.exit(1);
    }
}
