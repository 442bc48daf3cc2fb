import java.lang.management.ManagementFactory;

/**
 * All calls of one run live in one room of some 600,000 objects and 7.3 million elements: what 512 calls make is
 * counted in bytes, of which a room holds some 60 million at four an element and more for each object.
 */
public final class RoomTest {
    private static final Due due = new Due("RoomTest");
    private static final com.sun.management.ThreadMXBean THREADS =
            (com.sun.management.ThreadMXBean) ManagementFactory.getThreadMXBean();

    /** One call on a full desk, the k-th one. */
    private interface Call {
        void on(MilkDesk x, int k);
    }

    public static void main(String[] args) {
        constructors();
        calls("school", (x, k) -> x.school(0, 0));
        calls("heads", (x, k) -> x.heads(0, 0));
        calls("fault", (x, k) -> x.fault(7));
        calls("act", (x, k) -> x.act(7, -1, 400));
        calls("act behind a restore", (x, k) -> {
            if (k % 2 == 0) {
                x.restore();
            } else {
                x.act(7, -1, 400);
            }
        });
        calls("holds", (x, k) -> x.holds(0, 3, 1, 200));
        calls("quarrel", (x, k) -> x.quarrel(0, 3, 1, 200));
        calls("go", (x, k) -> x.go(60));
        calls("go behind a restore", (x, k) -> {
            if (k % 2 == 0) {
                x.restore();
            } else {
                x.go(60);
            }
        });
        calls("byHowMuch", (x, k) -> x.byHowMuch(0, 1));
        calls("round", (x, k) -> x.round(0, 0, 6, 0));
        calls("judge", (x, k) -> x.judge(0, 0, 6));
        calls("bought", (x, k) -> x.bought(0, 20));
        calls("parted", (x, k) -> x.parted(9999, 300, 228, 3));
        calls("away", (x, k) -> x.away(0, 60, 0));
        calls("beside", (x, k) -> x.beside(6, 600, 0));
        calls("image", (x, k) -> x.image());
        calls("restore", (x, k) -> x.restore());
        calls("row", (x, k) -> x.row(5, 2, 80));
        calls("copy", (x, k) -> x.copy(6, 0, 6, 1, 5));
        calls("toss", (x, k) -> x.toss(4));
        due.end();
    }

    private static MilkDesk fullDesk() {
        MilkDesk x = new MilkDesk();
        for (int k = 0; k < 12; k++) {
            x.school(k % 2, 777 * k);
        }
        for (int k = 0; k < 5; k++) {
            Due.dairy(x, 9999, 900, 10 + k);
        }
        Due.fill(x, 0, 2, 100, 100, 100, 100, 100, 100, 100, 100, 100, 100, 100, 100);
        for (int k = 0; k < 15; k++) {
            x.heads(k % 3, 0);
        }
        Due.bytes(x, 6, 0, 1, 2, 3, 4, 5, 11);
        Due.text(x, 7, "e:" + "a+".repeat(37) + "a<99");
        for (int k = 0; k < 15; k++) {
            x.act(7, -1, 0);
        }
        x.keep(4, 1, 6, 5, 5);
        x.go(7);
        for (int k = 0; k < 29; k++) {
            x.look(0, 5, 0);
        }
        x.image();
        return x;
    }

    private static long allocated() {
        return THREADS.getThreadAllocatedBytes(Thread.currentThread().getId());
    }

    private static void calls(String name, Call call) {
        fullDesk();
        MilkDesk x = fullDesk();
        long ahead = allocated();
        for (int k = 0; k < 512; k++) {
            call.on(x, k);
        }
        long made = allocated() - ahead;
        due.holds("512 calls of " + name + " make less than 1 MB: " + made, made < 1000000);
    }

    private static void constructors() {
        new MilkDesk();
        long ahead = allocated();
        new MilkDesk();
        long made = allocated() - ahead;
        due.holds("an object is less than 32 KB: " + made, made < 32000);
    }
}
