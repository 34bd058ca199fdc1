import java.lang.management.ManagementFactory;

/** How much room an object takes when it is made, and that its dearest calls take none. */
public final class RoomTest {
    private static final com.sun.management.ThreadMXBean THREADS =
            (com.sun.management.ThreadMXBean) ManagementFactory.getThreadMXBean();

    public static void main(String[] args) {
        Checks checks = new Checks();
        checks.begin("the room");
        useAll(new SlateHalves());
        long before = used();
        SlateHalves x = new SlateHalves();
        long made = used() - before;
        checks.holds("an object is made of less than 32 KB, was " + made, made < 32 * 1024);
        before = used();
        useAll(x);
        long taken = used() - before;
        checks.holds("some 500 calls take less than 4 KB, took " + taken, taken < 4 * 1024);
        checks.end();
    }

    private static long used() {
        return THREADS.getThreadAllocatedBytes(Thread.currentThread().getId());
    }

    private static void useAll(SlateHalves x) {
        String told = "dear 9 ((((b=1))))|!y=3;cheap 2 t>1;thin 1;thick 3;wind 4";
        for (int i = 0; i < told.length(); i++) {
            x.feed(told.charAt(i));
        }
        x.hill();
        for (int kind = 1; kind < 7; kind++) {
            x.block(kind, kind, 60);
        }
        for (int i = 0; i < 10; i++) {
            x.week(i % 3, i % 6);
            x.book(i % 6, 60);
            x.see(9, 20, true);
        }
        for (int i = 0; i < 20; i++) {
            x.order(-1);
            x.lasts(99999);
            x.worst();
            x.ends(0);
            x.on(60, 0);
            x.told(5);
            x.dryness(0, 0);
            x.can(0, 0);
            x.odds(0, 0);
            x.mean(0);
            x.image();
            x.undo();
            x.act(5, 2, i);
            x.looked();
            x.tape(i % 6, i % 5, 60);
            x.item(i % 6, 5, i);
            x.shift(i % 6, 0, i % 6, 2, 50);
            x.judge(0, i);
            x.strike(0, 1);
            x.of(1, 9 + i % 5);
        }
    }
}
