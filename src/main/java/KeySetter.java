import java.util.Arrays;

/** A maker of typewriters: letters, pages, keys, settings of letters on keys and the least cost of one. */
public final class KeySetter {
    public static final int NONE = -1, BAD = -2, NO = -3, FULL = -4, SPENT = -5;

    private static final int MOST_LETTERS = 10;
    private static final int LETTERS_AT_FIRST = 6;
    private static final int MOST_PAGES = 6;
    private static final int MOST_SIGNS = 300;
    private static final int MOST_FED = 8;
    private static final int MOST_KEYS = 12;
    private static final int MOST_KEYS_TURNED = 7;
    private static final int MOST_EXTRA = 1000;
    private static final int MOST_GO = 1000;
    private static final int MOST_TRIES = 20000;
    private static final int MOST_BODIES = 3;
    private static final int COUNTS = 7;

    private static final int HOME_KIND = 1;
    private static final int BAD_KIND = 2;
    private static final int WORSE_KIND = 3;
    private static final int PLAIN_BODY = 1;
    private static final int HOME_BODY = 2;
    private static final int BAD_BODY = 3;
    private static final int WORSE_BODY = 4;

    private static final long CHANGE_BAD = 1000000000L;
    private static final long CHANGE_NO = 1000000001L;
    // No SETTING costs more: 6 pages of 299 pairs, each at most 2 * (1000 + 1000).
    private static final int MOST_COST = 7176000;
    private static final long OUT_OF_REACH = 1L << 60;

    private final Letters letters;
    private final Pages pages;
    private final Keyboard keys;
    private final Setting setting;
    private final Finder finder;
    private final Bounder bounder;
    private final Turner turner;

    public KeySetter() {
        letters = new Letters();
        pages = new Pages();
        keys = new Keyboard();
        setting = new Setting(letters, keys, pages.often);
        finder = new Finder(letters, keys, pages.often);
        bounder = new Bounder(letters, keys, pages.often);
        turner = new Turner(keys);
    }

    public int letters(int n) {
        if (n < 1 || n > MOST_LETTERS) {
            return BAD;
        }
        int before = letters.number;
        letters.startAnew(n);
        setting.present = false;
        finder.forget();
        return before;
    }

    // ---- pages

    public int feed(int page, long w, int n) {
        if (!isPage(page) || n < 1 || n > MOST_FED) {
            return BAD;
        }
        if (pages.lengths[page] + n > MOST_SIGNS) {
            return FULL;
        }
        finder.forget();
        pages.write(page, w, n);
        return pages.lengths[page];
    }

    public int tear(int page) {
        if (!isPage(page)) {
            return BAD;
        }
        int length = pages.lengths[page];
        if (length == 0) {
            return NO;
        }
        finder.forget();
        pages.wipe(page);
        return length;
    }

    public int often(int a, int b) {
        if (!letters.has(a) || !letters.has(b)) {
            return BAD;
        }
        return pages.often[a][b];
    }

    // ---- keys

    public int key(int kind, int extra) {
        if (kind < 0 || kind > WORSE_KIND || extra < 0 || extra > MOST_EXTRA) {
            return BAD;
        }
        if (keys.number >= MOST_KEYS) {
            return FULL;
        }
        finder.forget();
        return keys.append(kind, extra);
    }

    public int go(int i, int k, int c) {
        if (!keys.has(i) || !keys.has(k) || c < 0 || c > MOST_GO) {
            return BAD;
        }
        finder.forget();
        return keys.setGoing(i, k, c);
    }

    public int cost(int i, int k) {
        if (!keys.has(i) || !keys.has(k)) {
            return BAD;
        }
        keys.writeBodies(k);
        return keys.costs[i][k];
    }

    public int body(int i) {
        if (i < 0 || i >= keys.bodiesAsked) {
            return NONE;
        }
        return keys.bodies[i];
    }

    // ---- settings

    public int fix(int letter, int key) {
        if (!letters.has(letter) || (key != NONE && !keys.has(key))) {
            return BAD;
        }
        if (key != NONE && letters.isFixedByOther(letter, key)) {
            return NO;
        }
        setting.present = false;
        finder.forget();
        return letters.fixOn(letter, key);
    }

    public int first() {
        if (tooFewKeys()) {
            return NO;
        }
        setting.becomeFirst();
        return 1;
    }

    public int put(int letter, int key) {
        if (!letters.has(letter) || !keys.has(key)) {
            return BAD;
        }
        if (!setting.present || letters.isFixed(letter) || letters.fixedBy[key] != NONE) {
            return NO;
        }
        setting.move(letter, key);
        return 1;
    }

    public int at(int letter) {
        if (!letters.has(letter)) {
            return BAD;
        }
        return setting.present ? setting.keyOf[letter] : NO;
    }

    public long all() {
        return setting.present ? setting.wholeCost() : NO;
    }

    public long share(int letter) {
        if (!letters.has(letter)) {
            return BAD;
        }
        return setting.present ? setting.shareOf(letter, NONE) : NO;
    }

    public int better() {
        return setting.present ? setting.betterToTheEnd() : NO;
    }

    public long change(int a, int b) {
        if (!letters.has(a) || !letters.has(b) || a == b) {
            return CHANGE_BAD;
        }
        if (!setting.present || letters.isFixed(a) || letters.isFixed(b)) {
            return CHANGE_NO;
        }
        return setting.changeByMove(a, setting.keyOf[b]);
    }

    // ---- the least

    public int search() {
        if (tooFewKeys()) {
            return NO;
        }
        return finder.findLeast() ? 1 : SPENT;
    }

    public long least() {
        return finder.hasFound ? finder.foundCost : NONE;
    }

    public int take() {
        if (!finder.hasFound) {
            return NO;
        }
        setting.become(finder.foundKeys);
        return 1;
    }

    public int tries() {
        return finder.triesMade;
    }

    public long bound() {
        return tooFewKeys() ? NO : bounder.leastSum();
    }

    public long price(int letter, int key) {
        if (!letters.has(letter) || !keys.has(key)) {
            return BAD;
        }
        return tooFewKeys() ? NO : bounder.priceOn(letter, key);
    }

    public int turns() {
        if (keys.number < 1 || keys.number > MOST_KEYS_TURNED) {
            return NO;
        }
        return turner.countTurns();
    }

    public int alike() {
        if (!setting.present || !finder.hasFound || keys.number > MOST_KEYS_TURNED) {
            return NO;
        }
        return turner.leads(setting.keyOf, finder.foundKeys, letters.number) ? 1 : 0;
    }

    public int count(int what) {
        switch (what) {
            case 0:
                return letters.number;
            case 1:
                return keys.number;
            case 2:
                return pages.present();
            case 3:
                return pages.signsTogether();
            case 4:
                return pages.pairsOf(letters.number);
            case 5:
                return letters.fixedTogether();
            case 6:
                return setting.present ? 1 : 0;
            default:
                return BAD;
        }
    }

    public long digest() {
        long h = 59;
        for (int what = 0; what < COUNTS; what++) {
            h = 31 * h + count(what);
        }
        h = mixSquare(h, pages.often, letters.number);
        h = mixSquare(h, keys.costs, keys.number);
        if (setting.present) {
            for (int letter = 0; letter < letters.number; letter++) {
                h = 31 * h + setting.keyOf[letter];
            }
        }
        return 31 * h + least();
    }

    private static long mixSquare(long before, int[][] table, int size) {
        long h = before;
        for (int i = 0; i < size; i++) {
            for (int k = 0; k < size; k++) {
                h = 31 * h + table[i][k];
            }
        }
        return h;
    }

    private static boolean isPage(int page) {
        return page >= 0 && page < MOST_PAGES;
    }

    private boolean tooFewKeys() {
        return keys.number < letters.number;
    }

    /** How many LETTERS there are, and which of them are FIXED on which KEYS. */
    private static final class Letters {
        int number = LETTERS_AT_FIRST;
        final int[] fixedOn = new int[MOST_LETTERS];
        final int[] fixedBy = new int[MOST_KEYS];

        Letters() {
            Arrays.fill(fixedOn, NONE);
            Arrays.fill(fixedBy, NONE);
        }

        void startAnew(int n) {
            number = n;
            Arrays.fill(fixedOn, NONE);
            Arrays.fill(fixedBy, NONE);
        }

        boolean has(int letter) {
            return letter >= 0 && letter < number;
        }

        boolean isFixed(int letter) {
            return fixedOn[letter] != NONE;
        }

        boolean isFixedByOther(int letter, int key) {
            return fixedBy[key] != NONE && fixedBy[key] != letter;
        }

        /** Whether FIXED LETTERS let this one be on that KEY. */
        boolean allow(int letter, int key) {
            return isFixed(letter) ? fixedOn[letter] == key : fixedBy[key] == NONE;
        }

        int fixOn(int letter, int key) {
            int before = fixedOn[letter];
            if (before != NONE) {
                fixedBy[before] = NONE;
            }
            fixedOn[letter] = key;
            if (key != NONE) {
                fixedBy[key] = letter;
            }
            return before;
        }

        int fixedTogether() {
            int together = 0;
            for (int letter = 0; letter < number; letter++) {
                if (isFixed(letter)) {
                    together++;
                }
            }
            return together;
        }
    }

    /** The signs of the PAGES. A PAGE that is there has signs, so one of length 0 is not there. */
    private static final class Pages {
        final int[][] signs = new int[MOST_PAGES][MOST_SIGNS];
        final int[] lengths = new int[MOST_PAGES];
        // Of all ten letters, so that it stays right as the number of LETTERS changes.
        final int[][] often = new int[MOST_LETTERS][MOST_LETTERS];

        void write(int page, long w, int n) {
            for (int place = n - 1; place >= 0; place--) {
                append(page, (int) ((w >>> (8 * place)) & 0xff));
            }
        }

        private void append(int page, int sign) {
            int length = lengths[page];
            if (length >= MOST_SIGNS) {
                return;
            }
            if (length > 0) {
                countPair(signs[page][length - 1], sign, 1);
            }
            signs[page][length] = sign;
            lengths[page] = length + 1;
        }

        void wipe(int page) {
            for (int place = 1; place < lengths[page]; place++) {
                countPair(signs[page][place - 1], signs[page][place], -1);
            }
            lengths[page] = 0;
        }

        private void countPair(int sign, int next, int by) {
            int a = sign - 'a';
            int b = next - 'a';
            if (a >= 0 && a < MOST_LETTERS && b >= 0 && b < MOST_LETTERS) {
                often[a][b] += by;
            }
        }

        int present() {
            int there = 0;
            for (int length : lengths) {
                if (length > 0) {
                    there++;
                }
            }
            return there;
        }

        int signsTogether() {
            int together = 0;
            for (int length : lengths) {
                together += length;
            }
            return together;
        }

        int pairsOf(int number) {
            int pairs = 0;
            for (int a = 0; a < number; a++) {
                for (int b = 0; b < number; b++) {
                    pairs += often[a][b];
                }
            }
            return pairs;
        }
    }

    /** The KEYS, GO and THE COST of each two of them, and the BODIES that were asked last. */
    private static final class Keyboard {
        int number;
        final int[] kinds = new int[MOST_KEYS];
        final int[] extras = new int[MOST_KEYS];
        final int[][] goings = new int[MOST_KEYS][MOST_KEYS];
        // Kept beside the goings, as a search asks for it some hundred thousand times.
        final int[][] costs = new int[MOST_KEYS][MOST_KEYS];
        final int[] bodies = new int[MOST_BODIES];
        int bodiesAsked;

        boolean has(int key) {
            return key >= 0 && key < number;
        }

        int append(int kind, int extra) {
            int key = number;
            kinds[key] = kind;
            extras[key] = extra;
            number++;
            for (int other = 0; other < number; other++) {
                costs[key][other] = reckonCost(key, other);
                costs[other][key] = reckonCost(other, key);
            }
            return key;
        }

        int setGoing(int i, int k, int c) {
            int before = goings[i][k];
            goings[i][k] = c;
            costs[i][k] = reckonCost(i, k);
            return before;
        }

        private int reckonCost(int i, int k) {
            int plain = goings[i][k];
            switch (kinds[k]) {
                case HOME_KIND:
                    return plain / 2;
                case BAD_KIND:
                    return plain + extras[k];
                case WORSE_KIND:
                    return 2 * (plain + extras[k]);
                default:
                    return plain;
            }
        }

        void writeBodies(int key) {
            bodiesAsked = 0;
            int kind = kinds[key];
            if (kind == HOME_KIND) {
                writeBody(HOME_BODY);
            }
            if (kind == WORSE_KIND) {
                writeBody(WORSE_BODY);
            }
            if (kind == WORSE_KIND || kind == BAD_KIND) {
                writeBody(BAD_BODY);
            }
            writeBody(PLAIN_BODY);
        }

        private void writeBody(int body) {
            if (bodiesAsked < MOST_BODIES) {
                bodies[bodiesAsked] = body;
                bodiesAsked++;
            }
        }
    }

    /** The SETTING, if it is present. It always keeps what is FIXED, as fixing does away with it. */
    private static final class Setting {
        private final Letters letters;
        private final Keyboard keys;
        private final int[][] often;
        final int[] keyOf = new int[MOST_LETTERS];
        boolean present;
        private long bestChange;
        private int bestLetter;
        private int bestKey;

        Setting(Letters letters, Keyboard keys, int[][] often) {
            this.letters = letters;
            this.keys = keys;
            this.often = often;
        }

        void become(int[] others) {
            for (int letter = 0; letter < letters.number; letter++) {
                keyOf[letter] = others[letter];
            }
            present = true;
        }

        void becomeFirst() {
            int next = 0;
            for (int letter = 0; letter < letters.number; letter++) {
                if (letters.isFixed(letter)) {
                    keyOf[letter] = letters.fixedOn[letter];
                } else {
                    next = unfixedFrom(next);
                    keyOf[letter] = next;
                    next++;
                }
            }
            present = true;
        }

        private int unfixedFrom(int start) {
            int key = start;
            while (key < keys.number - 1 && letters.fixedBy[key] != NONE) {
                key++;
            }
            return key;
        }

        private int letterOn(int key) {
            for (int letter = 0; letter < letters.number; letter++) {
                if (keyOf[letter] == key) {
                    return letter;
                }
            }
            return NONE;
        }

        /** Moving the LETTER back to where it was undoes this, for the other one as well. */
        void move(int letter, int key) {
            int other = letterOn(key);
            if (other != NONE) {
                keyOf[other] = keyOf[letter];
            }
            keyOf[letter] = key;
        }

        private long pairCost(int a, int b) {
            return (long) often[a][b] * keys.costs[keyOf[a]][keyOf[b]];
        }

        long wholeCost() {
            long sum = 0;
            for (int a = 0; a < letters.number; a++) {
                for (int b = 0; b < letters.number; b++) {
                    if (a != b) {
                        sum += pairCost(a, b);
                    }
                }
            }
            return sum;
        }

        /** The LETTER's SHARE without what it has together with the one that is left out; 0 if there is no such LETTER. */
        long shareOf(int letter, int leftOut) {
            if (!letters.has(letter)) {
                return 0;
            }
            long sum = 0;
            for (int other = 0; other < letters.number; other++) {
                if (other != letter && other != leftOut) {
                    sum += pairCost(letter, other) + pairCost(other, letter);
                }
            }
            return sum;
        }

        long changeByMove(int letter, int key) {
            int other = letterOn(key);
            int home = keyOf[letter];
            // What both have together counts once, so it is left out of the other one's SHARE.
            long before = shareOf(letter, NONE) + shareOf(other, letter);
            move(letter, key);
            long after = shareOf(letter, NONE) + shareOf(other, letter);
            move(letter, home);
            return after - before;
        }

        int betterToTheEnd() {
            int done = 0;
            // Each CHANGE lessens the COST by 1 or more, so there are no more than that.
            while (done < MOST_COST && findBestChange()) {
                move(bestLetter, bestKey);
                done++;
            }
            return done;
        }

        private boolean findBestChange() {
            bestChange = 0;
            for (int letter = 0; letter < letters.number; letter++) {
                weighExchanges(letter);
            }
            for (int letter = 0; letter < letters.number; letter++) {
                weighGoings(letter);
            }
            return bestChange < 0;
        }

        private void weighExchanges(int letter) {
            if (letters.isFixed(letter)) {
                return;
            }
            for (int other = letter + 1; other < letters.number; other++) {
                if (!letters.isFixed(other)) {
                    weigh(letter, keyOf[other]);
                }
            }
        }

        private void weighGoings(int letter) {
            if (letters.isFixed(letter)) {
                return;
            }
            for (int key = 0; key < keys.number; key++) {
                if (letters.allow(letter, key) && letterOn(key) == NONE) {
                    weigh(letter, key);
                }
            }
        }

        private void weigh(int letter, int key) {
            long change = changeByMove(letter, key);
            // Of like ones the first stays, so only a greater lessening takes its place.
            if (change < bestChange) {
                bestChange = change;
                bestLetter = letter;
                bestKey = key;
            }
        }
    }

    /** THE SEARCH and what it FOUND. */
    private static final class Finder {
        private final Letters letters;
        private final Keyboard keys;
        private final int[][] often;
        private final int[] placedOn = new int[MOST_LETTERS];
        private final boolean[] taken = new boolean[MOST_KEYS];
        private boolean spent;
        final int[] foundKeys = new int[MOST_LETTERS];
        boolean hasFound;
        long foundCost;
        int triesMade;

        Finder(Letters letters, Keyboard keys, int[][] often) {
            this.letters = letters;
            this.keys = keys;
            this.often = often;
        }

        void forget() {
            hasFound = false;
        }

        /** Whether it came to its end before it was SPENT. */
        boolean findLeast() {
            forget();
            triesMade = 0;
            spent = false;
            placeFrom(0, 0);
            return !spent;
        }

        private void placeFrom(int letter, long cost) {
            if (letter >= letters.number) {
                keep(cost);
                return;
            }
            for (int key = 0; key < keys.number && !spent; key++) {
                if (!taken[key] && letters.allow(letter, key)) {
                    tryOn(letter, key, cost);
                }
            }
        }

        private void tryOn(int letter, int key, long costBefore) {
            if (triesMade >= MOST_TRIES) {
                spent = true;
                return;
            }
            triesMade++;
            placedOn[letter] = key;
            long cost = costBefore + costAddedBy(letter);
            if (hasFound && cost >= foundCost) {
                return;
            }
            taken[key] = true;
            placeFrom(letter + 1, cost);
            taken[key] = false;
        }

        private long costAddedBy(int letter) {
            int key = placedOn[letter];
            long sum = 0;
            for (int other = 0; other < letter; other++) {
                int otherKey = placedOn[other];
                sum += (long) often[letter][other] * keys.costs[key][otherKey];
                sum += (long) often[other][letter] * keys.costs[otherKey][key];
            }
            return sum;
        }

        private void keep(long cost) {
            for (int letter = 0; letter < letters.number; letter++) {
                foundKeys[letter] = placedOn[letter];
            }
            foundCost = cost;
            hasFound = true;
        }
    }

    /** PRICES and THE BOUND. Asked only while there are as many KEYS as LETTERS, or more. */
    private static final class Bounder {
        private final Letters letters;
        private final Keyboard keys;
        private final int[][] often;
        private final int[] oftens = new int[MOST_LETTERS];
        private final int[] ways = new int[MOST_KEYS];
        private final long[] prices = new long[MOST_LETTERS];
        // Of each set of LETTERS, as bits, the least sum with which the KEYS so far can bear it.
        private final long[] sums = new long[1 << MOST_LETTERS];

        Bounder(Letters letters, Keyboard keys, int[][] often) {
            this.letters = letters;
            this.keys = keys;
            this.often = often;
        }

        /** The sum is least when the greatest OFTEN meets the least COST, and so on. */
        long priceOn(int letter, int key) {
            int others = gatherOftens(letter);
            int paths = gatherWays(key);
            long sum = 0;
            for (int i = 0; i < others && i < paths; i++) {
                sum += (long) oftens[others - 1 - i] * ways[i];
            }
            return sum;
        }

        private int gatherOftens(int letter) {
            int size = 0;
            for (int other = 0; other < letters.number; other++) {
                if (other != letter) {
                    insert(oftens, size, often[letter][other]);
                    size++;
                }
            }
            return size;
        }

        private int gatherWays(int key) {
            int size = 0;
            for (int other = 0; other < keys.number; other++) {
                if (other != key) {
                    insert(ways, size, keys.costs[key][other]);
                    size++;
                }
            }
            return size;
        }

        private static void insert(int[] rising, int size, int value) {
            int place = size;
            while (place > 0 && rising[place - 1] > value) {
                rising[place] = rising[place - 1];
                place--;
            }
            rising[place] = value;
        }

        long leastSum() {
            Arrays.fill(sums, OUT_OF_REACH);
            sums[0] = 0;
            int everyone = (1 << letters.number) - 1;
            for (int key = 0; key < keys.number; key++) {
                for (int letter = 0; letter < letters.number; letter++) {
                    prices[letter] = letters.allow(letter, key) ? priceOn(letter, key) : OUT_OF_REACH;
                }
                // From the greatest set down, so that no set uses this KEY twice.
                for (int set = everyone; set > 0; set--) {
                    sums[set] = Math.min(sums[set], leastWithLatestKey(set));
                }
            }
            return sums[everyone];
        }

        private long leastWithLatestKey(int set) {
            long least = OUT_OF_REACH;
            for (int letter = 0; letter < letters.number; letter++) {
                int bit = 1 << letter;
                if ((set & bit) != 0) {
                    least = Math.min(least, sums[set - bit] + prices[letter]);
                }
            }
            return least;
        }
    }

    /** The TURNS of at most seven KEYS. */
    private static final class Turner {
        private final Keyboard keys;
        private final int[] goesTo = new int[MOST_KEYS_TURNED];
        private final int[] mustGoTo = new int[MOST_KEYS_TURNED];
        private final boolean[] taken = new boolean[MOST_KEYS_TURNED];

        Turner(Keyboard keys) {
            this.keys = keys;
        }

        int countTurns() {
            Arrays.fill(mustGoTo, NONE);
            return turnsFrom(0);
        }

        boolean leads(int[] from, int[] to, int number) {
            Arrays.fill(mustGoTo, NONE);
            for (int letter = 0; letter < number; letter++) {
                mustGoTo[from[letter]] = to[letter];
            }
            return turnsFrom(0) > 0;
        }

        /** How many TURNS there are that begin as the KEYS before this one go now. */
        private int turnsFrom(int key) {
            if (key >= keys.number || key >= MOST_KEYS_TURNED) {
                return 1;
            }
            int turns = 0;
            for (int to = 0; to < keys.number && to < MOST_KEYS_TURNED; to++) {
                if (mayGo(key, to)) {
                    turns += turnsWith(key, to);
                }
            }
            return turns;
        }

        private int turnsWith(int key, int to) {
            goesTo[key] = to;
            taken[to] = true;
            int turns = turnsFrom(key + 1);
            taken[to] = false;
            return turns;
        }

        private boolean mayGo(int key, int to) {
            if (taken[to] || (mustGoTo[key] != NONE && mustGoTo[key] != to)) {
                return false;
            }
            if (keys.kinds[key] != keys.kinds[to] || keys.extras[key] != keys.extras[to]) {
                return false;
            }
            if (keys.goings[key][key] != keys.goings[to][to]) {
                return false;
            }
            for (int other = 0; other < key; other++) {
                if (!sameGoings(key, other, to, goesTo[other])) {
                    return false;
                }
            }
            return true;
        }

        private boolean sameGoings(int i, int k, int toI, int toK) {
            return keys.goings[i][k] == keys.goings[toI][toK] && keys.goings[k][i] == keys.goings[toK][toI];
        }
    }
}
