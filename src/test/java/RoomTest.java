import java.lang.management.ManagementFactory;

/** What objects and their dearest calls make: all the calls of a run share one room. */
public final class RoomTest {
    private static final Check CHECK = new Check("RoomTest");
    private static final com.sun.management.ThreadMXBean ROOM =
        (com.sun.management.ThreadMXBean) ManagementFactory.getThreadMXBean();

    private static long bytes() {
        return ROOM.getThreadAllocatedBytes(Thread.currentThread().getId());
    }

    public static void main(String[] args) {
        dearCalls(new FiveTouch());
        long start = bytes();
        FiveTouch x = new FiveTouch();
        long made = bytes() - start;
        CHECK.isSo("an object takes " + made + " bytes", made < 30000);
        start = bytes();
        dearCalls(x);
        long used = bytes() - start;
        CHECK.isSo("its calls take " + used + " bytes", used < 30000);
        CHECK.close();
    }

    /** Fourteen stones of which every set is lawful; each question behind a change. */
    private static void dearCalls(FiveTouch x) {
        x.terms(0, 0);
        for (int i = 0; i < 14; i++) {
            x.stone(i % 7, i / 7, 1, 1, 1 + i);
        }
        for (int i = 0; i < 8; i++) {
            x.spare(i, 7, 1, 1, 1);
        }
        law(x);
        x.force(0);
        for (int i = 0; i < 30; i++) {
            x.put(i % 14, 2, 3 * i);
            CHECK.due("once", x.once(3), 16383);
            CHECK.due("steps", x.oneByOne(3), 16383);
            x.order(3);
            x.fell(0);
            x.game(0);
            x.mend(0);
            x.night(1, 2);
            x.winters(i, 40);
            x.image(0);
            x.back(0);
            law(x);
        }
    }

    private static void law(FiveTouch x) {
        // bound if x>0;bound
        x.feed(0x626f756e, 0x64206966, 0x20783e30, 0x3b626f75, 0x6e642020);
        x.law();
    }
}
