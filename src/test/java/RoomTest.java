import com.sun.management.ThreadMXBean;
import java.lang.management.ManagementFactory;

/** A run lives in one room: what an object needs is made with it, and its calls make nothing more. */
public final class RoomTest {
    private static final ThreadMXBean THREADS = (ThreadMXBean) ManagementFactory.getThreadMXBean();
    private static final int OBJECTS = 100;
    private static final int LARGEST_OBJECT = 16 * 1024;
    private static final int ROUNDS = 200;

    private RoomTest() {
    }

    public static void main(String[] args) {
        Due due = new Due("RoomTest");
        long made = bytes();
        TurnRounds x = null;
        for (int i = 0; i < OBJECTS; i++) {
            x = new TurnRounds();
        }
        made = (bytes() - made) / OBJECTS;
        due.so("an object takes " + made + " bytes", made < LARGEST_OBJECT);
        callAll(x);
        long before = bytes();
        for (int i = 0; i < ROUNDS; i++) {
            callAll(x);
        }
        long more = bytes() - before;
        due.so("calls took " + more + " bytes", more < ROUNDS * 16);
        due.end();
    }

    private static long bytes() {
        return THREADS.getThreadAllocatedBytes(Thread.currentThread().getId());
    }

    private static void callAll(TurnRounds x) {
        x.wipe();
        x.write('N');
        x.write('6');
        x.fault();
        x.net();
        for (int cell = 0; cell < 36; cell++) {
            x.put(cell / 6, cell % 6, cell % 10);
        }
        for (int what = 0; what < 10; what++) {
            x.about(what);
        }
        x.cut(0, 0);
        x.time(0, 1, 2);
        x.undo();
        x.minutes(0, 1);
        x.pace(true);
        x.critical(0, 1);
        x.departs(1, 10);
        x.spare(0, 1, 10);
        x.late(0, 30, 9, 1, 40);
        x.dies(0, 30, 9);
        x.best(0);
        x.best(1);
        x.judge(4, 4009510060007030L);
        x.share(3, true);
        x.see(1, 9, 1);
        x.began(0);
        x.unsee();
        x.dropped(2, 4, 5, true);
        x.seed(3);
        x.drawn(20);
        x.keep(0);
        x.again(0);
    }
}
