import java.lang.management.ManagementFactory;

/** All calls of a run live in one room: a call makes nothing new, and an object itself is small. */
public final class RoomTest {
    private static final int ROUNDS = 11;
    private static final com.sun.management.ThreadMXBean THREADS =
        (com.sun.management.ThreadMXBean) ManagementFactory.getThreadMXBean();

    public static void main(String[] args) {
        GroundTents warm = new GroundTents();
        callAll(warm);
        long before = bytes();
        long none = bytes() - before;
        before = bytes();
        GroundTents x = new GroundTents();
        long made = bytes() - before - none;
        before = bytes();
        for (int i = 0; i < ROUNDS; i++) {
            callAll(x);
        }
        long called = (bytes() - before - none) / ROUNDS;
        Check.due("room: bytes of a new object, " + made + ", are few", 1, made < 16384 ? 1 : 0);
        Check.due("room: bytes made by one call of each", 0, called);
        Check.end();
    }

    private static long bytes() {
        return THREADS.getThreadAllocatedBytes(Thread.currentThread().getId());
    }

    private static long callAll(GroundTents x) {
        long sum = x.tent(0) + x.height(0, 9) + x.spring(3, 1) + x.cell(0, 3) + x.of(0, 3) + x.change(0, 1, 5) + x.change(0, 4, 9);
        sum += x.go(2) + x.now(5) + x.way(0, 24, 50) + x.climb(0, 24) + x.reach(0, 50) + x.drink(0, 50) + x.beat(9);
        sum += x.ahead(0, 100) + x.felt(0, 0, 100) + x.when(0, 24, 0) + x.settles() + x.lies(0, 0) + x.unlike(0, 3) + x.home(0);
        sum += x.pitchFor(0, 0, 24, 0) + x.kindFor(0, 60) + x.first(0, 1, 4) + x.out(0, 0, 0, 0) + x.sheet(0, 8, 40);
        sum += x.fits(0, 0) + x.kinds(0, 0) + x.nomads(20) + x.odds(15, 0) + x.seed(4) + x.feed(0x74656e74, 4) + x.text();
        sum += x.feed(0x64727935, 4) + x.text() + x.wipe() + x.hold(0, 0) + x.as(0, 0) + x.write(0, 0, 1) + x.copy(0, 0, 0, 1, 9);
        sum += x.load(0) + x.judge(0, 9) + x.image() + x.undo() + x.tear() + x.count(6) + x.status(-1);
        return sum;
    }
}
