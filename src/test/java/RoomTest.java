import com.sun.management.ThreadMXBean;
import java.lang.management.ManagementFactory;

/** All calls of a run live in one room: no call but a first one may make anything. */
public final class RoomTest {
    private static final int OBJECTS = 200;

    private static final Check CHECK = new Check();
    private static final ThreadMXBean THREADS = (ThreadMXBean) ManagementFactory.getThreadMXBean();

    public static void main(String[] args) {
        useAll(new BedFrontier(), 3);
        long start = allocated();
        BedFrontier x = null;
        for (int i = 0; i < OBJECTS; i++) {
            x = new BedFrontier();
        }
        long one = (allocated() - start) / OBJECTS;
        System.out.println("bytes of a new object: " + one);
        CHECK.due("a new object is small", one < 4096 ? 1 : 0, 1);
        start = allocated();
        useAll(x, 1);
        long first = allocated() - start;
        System.out.println("bytes of the first calls: " + first);
        CHECK.due("first calls make little", first < 65536 ? 1 : 0, 1);
        start = allocated();
        useAll(x, 50);
        CHECK.due("later calls make nothing", allocated() - start < 4096 ? 1 : 0, 1);
        CHECK.finish();
    }

    private static long allocated() {
        return THREADS.getThreadAllocatedBytes(Thread.currentThread().getId());
    }

    private static void useAll(BedFrontier x, int times) {
        for (int i = 0; i < times; i++) {
            x.house(3);
            x.rate(0, 4);
            x.bar(1, 77);
            x.clear();
            for (char c : TEXT) {
                x.type(c);
            }
            x.read();
            x.does(0, 1);
            x.waits(2);
            x.war(1);
            x.undo();
            askAll(x);
            x.image(0);
            x.image(1);
            x.from(0);
            x.status(5);
            x.count(2);
            x.digest();
        }
    }

    private static final char[] TEXT = "house 2;war;doing 0 9;doing 3 7;doing 5 20;bar 0 3;".toCharArray();

    private static void askAll(BedFrontier x) {
        x.of(0, 0);
        x.now(1);
        x.due(0, 0, 0);
        x.both(0, 1);
        x.least(BedFrontier.NONE);
        x.least(2);
        x.before(0, 1, 1, 2);
        x.child(4);
        x.where(1);
        x.bars(1);
        x.note(0, 0, 0, 0, 9);
        x.is(0);
        x.look(1, 1);
        x.forget();
        x.wars(0, 1);
        x.sentry(0, 3);
        x.days(5, 60);
        x.part(0);
    }
}
