import com.sun.management.ThreadMXBean;
import java.lang.management.ManagementFactory;

/**
 * All calls of a run live in one room: some 600,000 objects and arrays, 7.3 million fields and elements. An
 * object takes 16 bytes at least and a field or element one, so a run that takes few bytes keeps to the room.
 */
public final class RoomTest {
    private static final int CALLS = 512;
    private static final long MOST_BYTES = 1_000_000;
    private static final ThreadMXBean MEMORY = (ThreadMXBean) ManagementFactory.getThreadMXBean();
    private static final String RINGS = "part add 1 needs 1 2 3 4 span each;".repeat(6);
    private static final String TREE = "part add 1 span each;part add 2 needs 0 0 lazy 1 0 span each;part mul 3 needs 1 span scope lazy 0;";
    private static final Check check = new Check();

    public static void main(String[] args) {
        small("a new object", x -> { });
        small("read of nothing", x -> {
            for (int i = 0; i < CALLS; i++) {
                x.read();
            }
        });
        small("read of a fault", x -> {
            for (int i = 0; i < CALLS / 2; i++) {
                x.type(0x7061727400000000L);
                x.read();
            }
        });
        small("texts and what they tell", RoomTest::texts);
        small("acts", RoomTest::acts);
        small("questions", RoomTest::questions);
        check.end();
    }

    private static void texts(PlugBoard x) {
        for (int i = 0; i < 16; i++) {
            Check.read(x, RINGS);
            x.looser(0);
            x.start(0);
            x.image(i % 3);
        }
    }

    private static void acts(PlugBoard x) {
        Check.read(x, TREE);
        for (int i = 0; i < 60; i++) {
            x.enter();
            x.stand(0, i % 3);
            x.ask(1);
            x.value(0);
            x.image(i % 3);
            x.undo();
            x.ask(2);
            x.leave();
        }
    }

    private static void questions(PlugBoard x) {
        Check.read(x, TREE);
        x.ask(1);
        for (int i = 0; i < 60; i++) {
            x.would(i % 3, 0);
            x.worth(i % 3);
            x.needs(2, true);
            x.lost(0);
            x.looser(0);
            x.again(i % 3);
            x.image(i % 3);
        }
    }

    /** The first run brings what the machine itself makes; the second one is counted. */
    private static void small(String name, Picture.Run run) {
        run.on(new PlugBoard());
        long before = bytes();
        run.on(new PlugBoard());
        long taken = bytes() - before;
        check.due(name + " takes at most " + MOST_BYTES + " bytes, took " + taken, taken <= MOST_BYTES, true);
    }

    private static long bytes() {
        return MEMORY.getThreadAllocatedBytes(Thread.currentThread().getId());
    }
}
