import java.lang.management.ManagementFactory;

/**
 * All calls of one run live in one room: what they make is counted, by the bytes that the machine
 * hands out, none of which may be taken back. An element is taken for 4 bytes, so that the bound errs
 * on the safe side.
 */
public final class RoomTest {
    private static final long ELEMENTS = 7_300_000;
    private static final Due due = new Due();

    public static void main(String[] args) {
        madeAndLaidFlat();
        madeOfMuch();
        due.end();
    }

    private static long bytes() {
        return ((com.sun.management.ThreadMXBean) ManagementFactory.getThreadMXBean())
            .getThreadAllocatedBytes(Thread.currentThread().getId());
    }

    /** Many objects with few calls each. */
    private static void madeAndLaidFlat() {
        long before = bytes();
        for (int i = 0; i < 128; i++) {
            RulePlate p = new RulePlate();
            p.flat(0);
            p.run();
            p.circuit();
        }
        fits("128 objects", bytes() - before);
    }

    /** One object with as many pieces, nets and devices as there can be, found over and over. */
    private static void madeOfMuch() {
        long before = bytes();
        RulePlate p = new RulePlate();
        for (int layer = 0; layer < 4; layer++) {
            p.box(0, layer, 0, 101, false);
            p.box(0, layer, 65, 101, false);
        }
        for (int cell = 1; cell <= 5; cell++) {
            int told = 200 * 2 + (1 << cell) + 100;
            p.put(cell, cell - 1, 0, 0, false);
            p.times(cell, 0, told, told);
        }
        for (int layer = 0; layer < 16; layer++) {
            p.conducts(layer, true);
        }
        for (int k = 8; k < 16; k++) {
            p.made(k, 5, k - 8 & 3, k - 8 & 3);
        }
        for (int i = 0; i < 16; i++) {
            p.rule(i % 5, i & 3, i & 3, 9);
        }
        p.gates(0, 1, 2);
        for (int i = 0; i < 110; i++) {
            p.flat(5);
            p.run();
            p.circuit();
            p.pieces(i & 15, 0);
        }
        due.is("nets", p.circuit(), 12 * 2048);
        fits("much in one object", bytes() - before);
    }

    private static void fits(String what, long bytes) {
        due.is(what + " takes " + bytes + " bytes", bytes / 4 < ELEMENTS);
    }
}
