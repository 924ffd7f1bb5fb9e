import java.lang.management.ManagementFactory;

/** All calls of a run live in one room: the constructor is small, and no call after it makes an object. */
public final class RoomTest {
    private static final int CALLS = 512;
    // At four bytes an element, 512 such objects take less than half of the room's 7.3 million elements.
    private static final long MOST_BYTES_OF_AN_OBJECT = 24 * 1024;
    private static int wrong = 0;

    private static long bytes() {
        return ((com.sun.management.ThreadMXBean) ManagementFactory.getThreadMXBean()).getThreadAllocatedBytes(
            Thread.currentThread().getId());
    }

    private static void check(boolean holds, String otherwise) {
        if (!holds) {
            wrong++;
            System.out.println(otherwise);
        }
    }

    private static long everyCall(KeySetter x, int i) {
        long h = x.feed(i % 6, 0x6162636465666768L + i, 1 + i % 8) + x.often(i % 10, i % 7) + x.tear(i % 7);
        h += x.feed(i % 6, 0x6A69686766656463L + i, 8) + x.go(i % 12, i % 11, i % 1001) + x.cost(i % 12, i % 5);
        h += x.body(i % 4) + x.fix(i % 10, i % 13 - 1) + x.first() + x.put(i % 9, i % 10) + x.at(i % 10) + x.all();
        h += x.share(i % 11) + x.better() + x.change(i % 10, i % 9) + x.search() + x.least() + x.take() + x.tries();
        h += x.bound() + x.price(i % 10, i % 12) + x.turns() + x.alike() + x.count(i % 8) + x.digest();
        return h + x.key(i % 5, i) + (i % 50 == 0 ? x.letters(10) : 0);
    }

    private static void checkCallsMakeNothing() {
        long made = 0;
        long h = 0;
        // Some 27 calls a round, so that an object has no more than its 512.
        for (int object = 0; object < 6; object++) {
            KeySetter x = new KeySetter();
            x.letters(10);
            for (int k = 0; k < 12; k++) x.key(k % 4, k);
            h += everyCall(x, 0);
            long before = bytes();
            for (int i = 1; i <= 16; i++) h += everyCall(x, 16 * object + i);
            made += bytes() - before;
        }
        check(made < 10000, "calls made " + made + " bytes of objects, " + h);
    }

    private static void checkObjectsAreSmall() {
        KeySetter[] all = new KeySetter[CALLS];
        all[0] = new KeySetter();
        long before = bytes();
        for (int i = 1; i < CALLS; i++) all[i] = new KeySetter();
        long each = (bytes() - before) / (CALLS - 1);
        check(each < MOST_BYTES_OF_AN_OBJECT, "an object takes " + each + " bytes");
        check(all[CALLS - 1].count(0) == 6, "a late object is not new");
    }

    private static void checkDearestCallsEnd() {
        KeySetter x = new KeySetter();
        x.letters(10);
        for (int k = 0; k < 12; k++) x.key(0, 0);
        for (int i = 0; i < 12; i++) for (int k = 0; k < 12; k++) x.go(i, k, (i * 7 + k * 11) % 101 + 1);
        for (int i = 0; i < 30; i++) x.feed(i % 6, 0x6A69686766656463L + 0x0100020003000100L * (i % 5), 8);
        for (int i = 0; i < 60; i++) {
            check(x.search() == KeySetter.SPENT, "the search is not SPENT");
            x.first();
            check(x.better() >= 0, "better");
            check(x.bound() >= 0, "bound");
        }
        check(x.least() >= x.bound(), "THE BOUND is not below what was FOUND");
    }

    public static void main(String[] args) {
        checkCallsMakeNothing();
        checkObjectsAreSmall();
        checkDearestCallsEnd();
        System.out.println(wrong == 0 ? "the room is kept" : wrong + " things are not as due");
        if (wrong != 0) System.exit(1);
    }
}
