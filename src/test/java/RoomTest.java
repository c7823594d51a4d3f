import com.sun.management.ThreadMXBean;
import java.lang.management.ManagementFactory;

/** All calls of one run share one room: the dearest runs of 512 calls that can be thought of must stay small. */
final class RoomTest implements Words {
    /** A tenth of the 7.3 million fields and elements of the room, at four bytes each. */
    private static final long MOST_BYTES = 7_300_000L / 10 * 4;
    private static final ThreadMXBean ROOM = (ThreadMXBean) ManagementFactory.getThreadMXBean();

    private interface Act {
        void go();
    }

    public static void main(String[] args) {
        measure("warm up", RoomTest::manyRuns);
        measure("as many runs as there can be", RoomTest::manyRuns);
        measure("many activities", RoomTest::manyActivities);
        measure("long histories, decided again and again", RoomTest::longHistories);
        measure("versions told and forgotten", RoomTest::versions);
        Check.done("RoomTest");
    }

    private static void measure(String what, Act act) {
        long before = ROOM.getThreadAllocatedBytes(Thread.currentThread().getId());
        act.go();
        long bytes = ROOM.getThreadAllocatedBytes(Thread.currentThread().getId()) - before;
        System.out.println("    " + what + ": " + bytes + " bytes");
        Check.holds(what + " takes " + bytes + " bytes", () -> Check.truth(what.equals("warm up") || bytes < MOST_BYTES));
    }

    private static void manyRuns() {
        Flowkeeper x = Tale.started(0, AGAIN, 0, 0);
        for (int i = 1; i < 10; i++) {
            x.start(0, 0, 0);
        }
        for (int i = 0; i < 90; i++) {
            x.decide(i % 10, 1);
        }
    }

    private static void manyActivities() {
        Flowkeeper x = Tale.started(0, SIDE, 3, 0, ACT, 0, 0, ACT, 0, 0, ACT, 0, 0, AGAIN, 0, 0);
        for (int i = 1; i < 10; i++) {
            x.start(0, 0, 0);
        }
        for (int i = 0; i < 500; i++) {
            if (i % 10 == 0) {
                x.decide(i / 10 % 10, 1);
            } else if (x.has(0) == NONE) {
                x.take(0, 0);
            } else {
                x.end(0, 1);
            }
        }
    }

    private static void longHistories() {
        Flowkeeper x = Tale.started(0, WAIT, 0, 0, TELL, 0, 1, ADD, 1, 0, BACK, 50, 3);
        for (int i = 0; i < 70; i++) {
            x.signal(0, 1, 0);
        }
        for (int i = 0; i < 400; i++) {
            x.decide(0, 1);
            x.registerAnew(0, 1);
        }
    }

    private static void versions() {
        Flowkeeper x = new Flowkeeper();
        for (int i = 0; i < 500; i++) {
            x.step(0, SET, 1, 0);
            if (i % 12 == 11) {
                x.forget(0);
            }
        }
    }
}
