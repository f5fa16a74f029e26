import java.lang.management.ManagementFactory;

/** All calls of a run live in one room, so only the constructor may make objects, and few of them. */
public final class RoomTest {
    private static final int OBJECTS = 100;
    private static final int ROUNDS = 200;
    private static final int SMALLEST_OBJECT = 16;
    /** The tenth part of the room, 730,000 elements of four bytes, for a hundred objects. */
    private static final long MOST_BYTES_OF_OBJECTS = 730_000L * 4;
    private static final String[] BOARDS = {"f3222/:3222", "l4321/321:211", "c54/:54", "t5/5:9", "s333/:333"};
    private static final Checks CHECKS = new Checks();

    private static final com.sun.management.ThreadMXBean THREADS =
        (com.sun.management.ThreadMXBean) ManagementFactory.getThreadMXBean();

    private static long sink = 0;

    public static void main(String[] args) {
        SkewBoard x = new SkewBoard();
        useAll(x, "f1/:1");
        for (String text : BOARDS) {
            callsMakeNothing(x, text);
        }
        objectsAreSmall();
        CHECKS.isTrue("the answers are used", sink != 0);
        CHECKS.end("RoomTest");
    }

    private static long made() {
        return THREADS.getThreadAllocatedBytes(Thread.currentThread().getId());
    }

    private static void callsMakeNothing(SkewBoard x, String text) {
        useAll(x, text);
        long before = made();
        long nothing = made() - before;
        before = made();
        for (int round = 0; round < ROUNDS; round++) {
            useAll(x, text);
        }
        long bytes = made() - before - nothing;
        CHECKS.isTrue("calls with " + text + " made " + bytes + " bytes", bytes < SMALLEST_OBJECT * ROUNDS);
    }

    private static void objectsAreSmall() {
        SkewBoard[] kept = new SkewBoard[OBJECTS];
        long before = made();
        for (int k = 0; k < OBJECTS; k++) {
            kept[k] = new SkewBoard();
        }
        long bytes = made() - before;
        sink += kept[OBJECTS - 1].digest();
        CHECKS.isTrue(OBJECTS + " objects took " + bytes + " bytes", bytes < MOST_BYTES_OF_OBJECTS);
    }

    private static void useAll(SkewBoard x, String text) {
        sink += x.blank();
        for (int k = 0; k < text.length(); k++) {
            sink += x.letter(text.charAt(k));
        }
        sink += x.fault() + x.board();
        sink += x.image() + x.see(1, true) + x.restore() + x.forget() + x.sorts(1);
        for (int kind = 0; kind < 5; kind++) {
            sink += x.be(kind) + x.as(kind) + x.about(4) + x.digest();
            sink += x.drawn(100, kind, 1) + x.row(0, 0) + x.box(0, 1);
        }
        sink += x.grow(0, false) + x.cut(0, 1) + x.give(1, 2) + x.terms() + x.term(0, 4);
        sink += x.way(0, 0) + x.hive(0, 1, 1) + x.content(1) + x.text(1) + x.count(4);
        sink += x.letter('1') + x.filling() + x.blank() + x.filling();
    }
}
