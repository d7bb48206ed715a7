import com.sun.management.ThreadMXBean;
import java.lang.management.ManagementFactory;

/** All calls of a run share one room: no call makes an object, and a new RowFirst is small. */
public final class RoomTest {
    private static final int MOST_BYTES_OF_ONE = 16384;

    private static final ThreadMXBean THREADS = (ThreadMXBean) ManagementFactory.getThreadMXBean();

    public static void main(String[] args) {
        Check check = new Check();
        check.part("room");
        Class<?>[] loaded = RowFirst.class.getDeclaredClasses();
        calls(new RowFirst());
        long before = bytes();
        RowFirst x = new RowFirst();
        long made = bytes();
        calls(x);
        long after = bytes();
        System.out.println(loaded.length + " classes inside; one object takes " + (made - before)
            + " bytes, its calls " + (after - made));
        check.holds("a new object is small", made - before <= MOST_BYTES_OF_ONE);
        // Asking for the bytes makes a little itself.
        check.holds("calls make nothing", after - made <= 1024);
        check.finish();
    }

    private static long bytes() {
        return THREADS.getThreadAllocatedBytes(Thread.currentThread().getId());
    }

    private static void text(RowFirst x, String text) {
        for (int i = 0; i < text.length(); i++) {
            x.feed(text.charAt(i));
        }
    }

    private static void row(RowFirst x, String text) {
        for (int i = 0; i < text.length(); i++) {
            x.sign(text.charAt(i) - '0');
        }
        x.row();
    }

    private static void calls(RowFirst x) {
        for (int i = 0; i < 4; i++) {
            text(x, "signs 3;heavy 2 s=2|!(d>4&s=1);heavy x");
            x.stall();
            text(x, "signs 3;heavy 2 s=2|!(d>4&s=1)");
            x.stall();
        }
        row(x, "012012");
        row(x, "000000");
        row(x, "0122");
        for (int kind = 3; kind < 7; kind++) {
            x.player(kind, 3);
        }
        for (int i = 0; i < 24; i++) {
            x.toss(i % 2);
        }
        for (int i = 0; i < 20; i++) {
            ask(x, i % 4);
        }
    }

    private static void ask(RowFirst x, int player) {
        x.told(10);
        x.waits(0, 1);
        x.odds(0, 1, 0);
        x.lasts(1, 2, 0);
        x.half(1, 2, 0);
        x.worth(1, 0, 0);
        x.best(0, 4, 3);
        x.ring(0, 1, 2);
        x.pick(player, 0, 1);
        x.fair(0, 1);
        x.within(0, 15, 0);
        x.often(0, 60, 0);
        x.free(30);
        x.came(0);
        x.ends(0);
        x.ahead();
        x.act(player, 2, 7);
        x.trace(1);
        x.as(player, 3);
        x.own(3);
        x.image();
        x.undo();
        x.count(6);
        x.day(player);
    }
}
