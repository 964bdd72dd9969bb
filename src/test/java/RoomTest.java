import com.sun.management.ThreadMXBean;
import java.lang.management.ManagementFactory;
import java.util.function.Consumer;

/**
 * What runs of 512 calls make has to stay far below the one room that all of them share: some 600,000 objects and 7.3
 * million fields and elements. Bytes are measured; no element has more than eight of them, so that the bounds below
 * (a byte counts as an element) are on the safe side.
 */
public final class RoomTest {
    private static final Checks CHECKS = new Checks();
    private static final long ROOM = 7_300_000;

    public static void main(String[] args) {
        measure("every board, every table, again and again", house -> {
            for (int i = 0; i < 256; i++) {
                house.board(4 + i % 5);
                house.make(2);
            }
        });
        measure("lines", house -> {
            house.make(2);
            for (int i = 0; i < 511; i++) {
                house.line(2, 28, 44, 20, 1);
            }
        });
        measure("best moves and what is thrown", house -> {
            house.make(2);
            for (int i = 0; i < 255; i++) {
                house.best(0, 4, 60, 3, 0);
                try {
                    house.best(0, 4, 4, 3, 0);
                } catch (java.util.NoSuchElementException due) {
                    // as it should be
                }
            }
        });
        CHECKS.end();
    }

    private static void measure(String what, Consumer<EndgameHouse> run) {
        ThreadMXBean threads = (ThreadMXBean) ManagementFactory.getThreadMXBean();
        long before = threads.getCurrentThreadAllocatedBytes();
        run.accept(new EndgameHouse());
        long bytes = threads.getCurrentThreadAllocatedBytes() - before;
        System.out.println(what + ": " + bytes + " bytes");
        CHECKS.yes(what + " made " + bytes + " bytes", bytes < ROOM);
    }
}
