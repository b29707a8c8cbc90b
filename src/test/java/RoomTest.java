import java.lang.management.ManagementFactory;

/** What 512 calls make stays small: all calls of one run live in one room, and nothing in it is given back. */
public final class RoomTest {
    private static final com.sun.management.ThreadMXBean BEAN =
            (com.sun.management.ThreadMXBean) ManagementFactory.getThreadMXBean();

    public static void main(String[] args) {
        bytesOf(RoomTest::manyLoads);
        Check.due("room of many loads", bytesOf(RoomTest::manyLoads) < 150_000 ? 1 : 0, 1);
        bytesOf(RoomTest::manyLaws);
        Check.due("room of many laws", bytesOf(RoomTest::manyLaws) < 150_000 ? 1 : 0, 1);
        Check.due("room of a new object", bytesOf(PorterTurns::new) < 12_000 ? 1 : 0, 1);
        Check.finish();
    }

    private static long bytesOf(Runnable run) {
        long before = BEAN.getThreadAllocatedBytes(Thread.currentThread().getId());
        run.run();
        return BEAN.getThreadAllocatedBytes(Thread.currentThread().getId()) - before;
    }

    private static void manyLoads() {
        PorterTurns x = new PorterTurns();
        x.place(0, 0);
        x.place(9, 0);
        for (int man = 0; man < 30; man++) {
            x.man(0, 90, 30, 0);
            x.join(man);
        }
        for (int load = 0; load < 200; load++) {
            x.load(1300, 1, 5, 5);
            x.send(0, load);
            if (load % 10 == 0) {
                x.minutes(600);
                x.foretold(0);
            }
        }
    }

    private static void manyLaws() {
        PorterTurns x = new PorterTurns();
        for (int law = 0; law < 40; law++) {
            for (int i = 0; i < 10; i++) {
                x.feed(0x312b312b, 0x312b312b, 0x312b312b, 0x312b312b, 0x312b312b);
            }
            x.end(199);
            x.law(0, 0, 0);
        }
        for (int i = 0; i < 32; i++) {
            x.says(0, 0, -1, -1);
        }
    }
}
