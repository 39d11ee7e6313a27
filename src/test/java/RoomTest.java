import java.lang.management.ManagementFactory;

/** Calls make no objects: all that they need is made with the object. The dearest ones end soon. */
public final class RoomTest {
    private static final com.sun.management.ThreadMXBean THREADS =
        (com.sun.management.ThreadMXBean) ManagementFactory.getThreadMXBean();
    private static final int ROUNDS = 40;

    public static void main(String[] args) {
        long made = 0;
        long taken = 0;
        for (int run = 0; run < 3; run++) {
            // The first runs load classes; the last one is measured.
            long start = bytesMade();
            WarnLines x = new WarnLines();
            long before = bytesMade();
            callAll(x);
            made = bytesMade() - before;
            taken = before - start;
        }
        Due.due("bytes made by calls, in ten thousands", made / 10000, 0);
        Due.due("bytes that an object takes, in hundred thousands", taken / 100000, 0);
        long began = System.nanoTime();
        dearCalls();
        long seconds = (System.nanoTime() - began) / 1_000_000_000L;
        Due.due("512 dear calls within 60 seconds", seconds < 60 ? 1 : 0, 1);
        Due.close();
    }

    private static long bytesMade() {
        return THREADS.getThreadAllocatedBytes(Thread.currentThread().getId());
    }

    private static void callAll(WarnLines x) {
        for (int round = 0; round < ROUNDS; round++) {
            int g = x.group();
            x.told(g, round % 5, 100 + 37 * round % 90, round);
            x.sheet(round % 4, 2, 60);
            x.lay(round % 4, 2, 0, 64);
            x.odds(round % 4);
            x.read(round % 4, round % 20, round);
            x.copy(round % 4, 0, round % 4, 3, 50);
            x.type(0, "z4/5>0;z2/3>1;z1/1>3".charAt(round % 20));
            x.type(1, "z5/5>1;z3/4>2".charAt(round % 13));
            x.set(round % 10, 1);
            x.cause(round % 6, round % 20);
        }
        WarnLinesCalls.ask(x);
    }

    /** Seven groups that seldom warn, and rules that need every class and five groups. */
    private static void dearCalls() {
        WarnLines x = Due.row(10, 11, 12, 13, 14, 15, 16);
        Due.write(x, 0, "z5/5>0;z5/5>1;z5/5>2;z5/5>3;z4/5>2;z4/5>3;z3/5>3");
        Due.write(x, 1, "z5/5>0;z5/5>1;z5/5>2;z5/5>3;z4/5>2;z4/5>3;z3/5>3");
        x.sheet(0, 0, 8);
        for (int c = 0; c < 8; c++) {
            x.lay(0, 0, c, 8);
        }
        x.odds(0);
        long h = 0;
        for (int call = 0; call < 256; call++) {
            h += x.cheaper(9, 0, 0) + x.warned(0, 2);
        }
        Due.due("they answer", h == 0 ? 0 : 1, 1);
    }
}
