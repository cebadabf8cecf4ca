import java.lang.management.ManagementFactory;

/** The dearest calls, 512 of them on one object: they end, throw nothing of the machine, and make hardly any objects. */
public final class LoadTest extends Checks {
    private static final long MOST_BYTES = 1000000;

    private static long allocated() {
        com.sun.management.ThreadMXBean threads = (com.sun.management.ThreadMXBean) ManagementFactory.getThreadMXBean();
        return threads.getThreadAllocatedBytes(Thread.currentThread().getId());
    }

    private static void check(String what, boolean holds) {
        due(what, holds, true);
    }

    private static Counterpointery longest(int ratio) {
        return house(ratio, 7, 9, 8, 10, 11, 9, 12, 11, 10, 9, 11, 10, 9, 8);
    }

    /** Searches whose tables are old at each call. */
    private static void searches() {
        long before = allocated();
        Counterpointery x = longest(2);
        for (int call = 16; call < 512; call += 4) {
            x.feign(call % 8 == 0);
            int cost = x.find();
            check("the cost of the best line", cost == x.cost());
            long good = x.goodLines();
            check("lines are found", good != 0 || cost >= 0);
        }
        check("searching keeps to its room", allocated() - before < MOST_BYTES);
    }

    private static void bars() {
        long before = allocated();
        Counterpointery x = new Counterpointery();
        x.ratio(2);
        x.lower(true);
        x.range(8, 17);
        // Only the first note is on the wrong side, which a search from the end finds last.
        for (int note : new int[] {7, 23, 22, 24, 25, 23, 21, 23, 22, 20, 21, 22, 23, 22}) {
            x.given(note);
        }
        int barred = 0;
        for (int call = 18; call < 512; call += 2) {
            x.setLaw('r', call % 4);
            barred += x.bars();
        }
        check("one law bars", barred == 247 && x.barAt(0) == 'x');
        check("barring keeps to its room", allocated() - before < MOST_BYTES);
    }

    private static void mending() {
        long before = allocated();
        Counterpointery x = longest(4);
        for (int i = 0; i < 53; i++) {
            x.other(i * 17 % 28);
        }
        for (int call = 67; call < 512; call += 4) {
            x.change(call % 53, call * 5 % 28);
            int cost = x.cost();
            try {
                x.mend();
                check("a mended line costs less", x.cost() < cost);
            } catch (java.util.NoSuchElementException e) {
                check("what can't be mended stays", x.cost() == cost);
            }
        }
        check("mending keeps to its room", allocated() - before < MOST_BYTES);
    }

    private static void trying() {
        long before = allocated();
        Counterpointery x = new Counterpointery();
        for (int note : new int[] {8, 10, 9, 8}) {
            x.given(note);
        }
        x.range(8, 15);
        for (int call = 5; call < 512; call += 2) {
            x.style(call % 3);
            check("the invariants", x.isConsistent());
        }
        check("trying keeps to its room", allocated() - before < MOST_BYTES);
    }

    private static void canons() {
        long before = allocated();
        Counterpointery x = longest(4);
        for (int i = 0; i < 53; i++) {
            x.other(7 + i % 3);
        }
        for (int call = 67; call < 512; call++) {
            check("canons", x.canons() >= 0);
        }
        check("canons keep to their room", allocated() - before < MOST_BYTES);
    }

    public static void main(String[] args) {
        searches();
        bars();
        mending();
        trying();
        canons();
        end("the load is borne");
    }
}
