/** Numbers as the document has them told, and what several tests of sentences draw. */
final class Tell {
    static final int MISSING = RulePlate.MISSING;
    static final int BEYOND = RulePlate.BEYOND;
    static final int BELOW = RulePlate.BELOW;
    static final int KIND = RulePlate.KIND;
    static final int COPY = RulePlate.COPY;
    static final int NO = RulePlate.NO;
    static final int FULL = RulePlate.FULL;
    static final int SPENT = RulePlate.SPENT;
    static final int NONE = RulePlate.NONE;

    private Tell() {
    }

    static int square(int x, int y) {
        return 64 * y + x;
    }

    static int size(int wide, int high) {
        return 100 * wide + high;
    }

    static int times(int many, int far) {
        return 200 * many + far + 100;
    }

    static int nets(int gate, int end, int otherEnd) {
        return 24 * 24 * gate + 24 * end + otherEnd;
    }

    /** A box of one square. */
    static void dot(RulePlate p, int cell, int layer, int x, int y) {
        p.box(cell, layer, square(x, y), size(1, 1), false);
    }

    /**
     * Devices of these sizes, apart from one another, each with a gate and two ends that no other has.
     * A cell for each size (1 .. 7), put into cell 7; nets are gates first, then ends two by two.
     */
    static RulePlate devices(int... sizes) {
        RulePlate p = new RulePlate();
        for (int i = 0; i < sizes.length; i++) {
            int cell = sizes[i] - 1;
            if (p.shape(cell, 0, 0) == BEYOND) {
                int y = (sizes[i] - 1) / 2;
                p.path(cell, 1, square(0, y), square(4, y), sizes[i]);
                p.path(cell, 2, square(2, 0), square(2, 9), 1);
            }
            p.put(7, cell, square(8 * (i % 8), 20 * (i / 8)), 0, false);
        }
        p.made(8, 2, 1, 2);
        p.conducts(8, true);
        p.conducts(2, true);
        p.gates(2, 1, 8);
        p.flat(7);
        p.circuit();
        return p;
    }

    /** Things with nets of their own, as such devices have them, of these sizes (0: any). */
    static void wish(RulePlate p, int... sizes) {
        for (int i = 0; i < sizes.length; i++) {
            p.wish(nets(3 * i, 3 * i + 1, 3 * i + 2), sizes[i]);
        }
    }
}
