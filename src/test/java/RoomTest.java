import com.sun.management.ThreadMXBean;
import java.lang.management.ManagementFactory;

/** The dearest calls, 512 times each: what they make must stay far below the room of one run. */
public final class RoomTest {
    /** 600,000 objects of 16 bytes at least are 9.6 million bytes. */
    private static final long MOST_BYTES = 3_000_000;
    private static final ThreadMXBean MEMORY =
        (ThreadMXBean) ManagementFactory.getThreadMXBean();
    private static int wrong = 0;

    private interface Call {
        long on(TimedYard x);
    }

    public static void main(String[] args) {
        room("walk()", TimedYard::walk);
        room("soonest(199)", x -> x.soonest(199));
        room("lead(199, 0, 1)", x -> x.lead(199, 0, 1));
        room("keep(0, 1, 0, 0)", x -> x.keep(0, 1, 0, 0));
        room("keep(0, 3, 0, 0)", x -> x.keep(0, 3, 0, 0));
        room("keep(0, 4, 0, 0)", x -> x.keep(0, 4, 0, 0));
        room("make(0, 4, 60)", x -> x.make(0, 4, 60));
        room("meet(0)", x -> x.hand(0, 0) + x.meet(0));
        room("letGo(1, 2, 3)", x -> x.hand(2, 0) + x.letGo(1, 2, 3));
        System.out.println(wrong == 0 ? "there is room" : wrong + " calls take too much room");
        if (wrong != 0) {
            System.exit(1);
        }
    }

    private static void room(String name, Call call) {
        long thread = Thread.currentThread().getId();
        long before = MEMORY.getThreadAllocatedBytes(thread);
        TimedYard x = new TimedYard();
        x.machine();
        x.place(0);
        x.way(0, 0, 0, 0, 1);
        x.test(0, 0, 1, -1, false);
        x.test(0, 0, 4, 1, false);
        x.test(0, 0, 6, 0, false);
        if (x.walk() != -202) {
            wrong++;
            System.out.println("the walk is not spent");
        }
        for (int n = 0; n < 500; n++) {
            call.on(x);
        }
        long made = MEMORY.getThreadAllocatedBytes(thread) - before;
        if (made > MOST_BYTES) {
            wrong++;
            System.out.println(name + " makes " + made + " bytes in 500 calls");
        }
    }
}
