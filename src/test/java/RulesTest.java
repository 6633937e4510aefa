/** Promises 14 to 17: rules and their faults. */
public final class RulesTest {
    private static final Due due = new Due();

    public static void main(String[] args) {
        rules();
        runs();
        wide();
        apart();
        inside();
        areas();
        shares();
        many();
        asked();
        due.end();
    }

    private static int square(int x, int y) {
        return 64 * y + x;
    }

    private static void fault(RulePlate p, int i, int... want) {
        for (int what = 0; what < 4; what++) {
            due.is("fault(" + i + ", " + what + ")", p.fault(i, what), want[what]);
        }
    }

    private static void rules() {
        due.promise(14);
        RulePlate p = new RulePlate();
        int[] most = {64, 64, 9, 4096, 4096};
        int number = 0;
        for (int kind = 0; kind < 5; kind++) {
            due.is("n too great", p.rule(kind, 0, 0, most[kind] + 1), RulePlate.NO);
            due.is("n -1", p.rule(kind, 0, 0, -1), RulePlate.NO);
            due.is("a 16", p.rule(kind, 16, 0, -1), RulePlate.BEYOND);
            due.is("a -1", p.rule(kind, -1, 0, 1), RulePlate.BEYOND);
            due.is("n greatest", p.rule(kind, 15, 0, most[kind]), number++);
            due.is("n least", p.rule(kind, 0, kind == 2 ? 15 : 16, 0), number++);
        }
        due.is("b 16", p.rule(2, 0, 16, 10), RulePlate.BEYOND);
        due.is("b -1", p.rule(2, 0, -1, 1), RulePlate.BEYOND);
        due.is("kind 5", p.rule(5, 99, 0, 0), RulePlate.NO);
        due.is("kind -1", p.rule(-1, 99, 0, 0), RulePlate.NO);
        while (number < 16) {
            due.is("rule", p.rule(0, 0, 0, 1), number++);
        }
        due.is("full", p.rule(0, 0, 0, 1), RulePlate.FULL);
        due.is("full, n", p.rule(0, 0, 0, 65), RulePlate.NO);
    }

    private static void runs() {
        due.promise(15);
        RulePlate p = new RulePlate();
        due.is("missing", p.run(), RulePlate.MISSING);
        p.box(0, 0, 0, 101, false);
        p.flat(0);
        due.is("no rules", p.run(), 0);
        p.rule(0, 0, 0, 2);
        due.is("rules are as told now", p.run(), 2);
        p.box(0, 0, 5, 101, false);
        due.is("the drawing is as it was", p.run(), 2);
        p.flat(0);
        due.is("now", p.run(), 4);
        for (int i = 1; i < 16; i++) {
            p.rule(3, 0, 0, 2);
        }
        due.is("16 rules", p.run(), 4 + 15 * 2);
        due.is("the last", p.faults(15, 0), 2);
    }

    private static void wide() {
        due.promise(15);
        RulePlate p = new RulePlate();
        p.box(0, 0, square(60, 0), 402, false);
        p.box(0, 0, square(0, 0), 201, false);
        p.rule(0, 0, 0, 4);
        p.flat(0);
        due.is("run", p.run(), 1 + 2 + 4);
        fault(p, 0, 0, 0, 1, 2);
        fault(p, 1, 0, 0, 0, 1);
        fault(p, 2, 0, 1, 1, 1);
        fault(p, 3, 0, 60, square(60, 1), 2);
        fault(p, 6, 0, 63, square(63, 1), 2);
        RulePlate q = new RulePlate();
        q.box(0, 0, 0, 6463, false);
        q.rule(0, 0, 0, 64);
        q.rule(0, 0, 0, 63);
        q.flat(0);
        due.is("64 wide are not too few, 63 high are", q.run(), 64);
        fault(q, 63, 0, 63, square(63, 62), 63);
    }

    private static void apart() {
        due.promise(15);
        RulePlate p = new RulePlate();
        p.path(0, 0, square(3, 2), square(3, 2), 1);
        p.path(0, 0, square(6, 2), square(6, 2), 1);
        p.path(0, 0, square(8, 2), square(8, 2), 1);
        p.path(0, 0, square(3, 9), square(3, 9), 1);
        p.path(0, 0, square(12, 2), square(12, 2), 1);
        p.rule(1, 0, 0, 3);
        p.rule(1, 0, 0, 64);
        p.flat(0);
        due.is("run", p.run(), 2 + 4);
        fault(p, 0, 0, square(4, 2), square(5, 2), 2);
        fault(p, 1, 0, square(7, 2), square(7, 2), 1);
        fault(p, 4, 1, square(9, 2), square(11, 2), 3);
        fault(p, 5, 1, square(3, 3), square(3, 8), 6);
        RulePlate q = new RulePlate();
        q.box(0, 0, square(0, 0), 101, false);
        q.box(0, 0, square(63, 0), 101, false);
        q.box(0, 0, square(0, 63), 101, false);
        q.rule(1, 0, 0, 63);
        q.rule(1, 0, 0, 62);
        q.flat(0);
        due.is("from border to border", q.run(), 2);
        fault(q, 0, 0, 1, 62, 62);
        fault(q, 1, 0, square(0, 1), square(0, 62), 62);
    }

    private static void inside() {
        due.promise(15);
        insideLast();
        RulePlate p = new RulePlate();
        p.box(0, 0, square(10, 10), 201, false);
        p.box(0, 1, square(8, 8), 505, false);
        p.box(0, 1, square(9, 11), 101, true);
        p.box(0, 2, square(63, 63), 101, false);
        p.box(0, 3, 0, 6464, false);
        p.rule(2, 0, 1, 1);
        p.rule(2, 0, 1, 0);
        p.rule(2, 0, 1, 2);
        p.rule(2, 2, 3, 1);
        p.rule(2, 2, 3, 0);
        p.rule(2, 2, 15, 0);
        p.flat(0);
        due.is("run", p.run(), 1 + 0 + 2 + 1 + 0 + 1);
        fault(p, 0, 0, square(10, 10), square(9, 11), 1);
        fault(p, 1, 2, square(10, 10), square(9, 11), 2);
        fault(p, 2, 2, square(11, 10), square(13, 8), 2);
        fault(p, 3, 3, 4095, 4095, 1);
        fault(p, 4, 5, 4095, 4095, 0);
    }

    /** What is lacking is only below, and on the right; or at the border. */
    private static void insideLast() {
        RulePlate p = new RulePlate();
        p.box(0, 0, square(30, 30), 101, false);
        p.box(0, 0, square(62, 61), 101, false);
        p.box(0, 1, square(20, 20), 4444, false);
        p.box(0, 1, square(32, 32), 101, true);
        p.box(0, 1, square(63, 63), 101, true);
        p.rule(2, 0, 1, 1);
        p.rule(2, 0, 1, 2);
        p.flat(0);
        due.is("run", p.run(), 2);
        fault(p, 0, 1, square(30, 30), square(32, 32), 2);
        fault(p, 1, 1, square(62, 61), square(63, 63), 2);
        RulePlate q = new RulePlate();
        q.box(0, 0, square(30, 0), 101, false);
        q.box(0, 1, square(28, 0), 503, false);
        q.rule(2, 0, 1, 2);
        q.flat(0);
        due.is("only some beyond are not", q.run(), 1);
        fault(q, 0, 0, 30, 30, 2);
    }

    private static void areas() {
        due.promise(15);
        RulePlate p = new RulePlate();
        p.path(0, 0, square(10, 5), square(10, 9), 1);
        p.path(0, 0, square(4, 9), square(10, 9), 1);
        p.path(0, 0, square(0, 6), square(1, 6), 1);
        p.rule(3, 0, 0, 2);
        p.rule(3, 0, 0, 12);
        p.rule(3, 1, 0, 4096);
        p.flat(0);
        due.is("run", p.run(), 2);
        fault(p, 0, 1, square(10, 5), square(10, 9), 11);
        fault(p, 1, 1, square(0, 6), square(1, 6), 2);
    }

    private static void shares() {
        due.promise(15);
        RulePlate p = new RulePlate();
        p.box(0, 0, square(8, 8), 1616, false);
        p.box(0, 0, square(32, 16), 1616, false);
        p.rule(4, 0, 0, 64);
        p.rule(4, 0, 0, 65);
        p.rule(4, 0, 0, 257);
        p.flat(0);
        due.is("run", p.run(), 11 + 15 + 16);
        fault(p, 0, 0, 32, 32 + 15 * 65, 0);
        fault(p, 11, 1, 0, 15 * 65, 64);
        fault(p, 12, 1, 16, 16 + 15 * 65, 64);
        fault(p, 25, 1, square(48, 48), 4095, 0);
        fault(p, 32, 2, square(32, 16), square(47, 31), 256);
    }

    /** More faults than are told. */
    private static void many() {
        due.promise(16);
        RulePlate p = new RulePlate();
        p.box(0, 0, 0, 6410, false);
        p.box(0, 2, 0, 101, false);
        p.rule(2, 0, 1, 0);
        p.rule(0, 2, 0, 5);
        p.flat(0);
        due.is("all are counted", p.run(), 642);
        fault(p, 599, 0, 599, 599, 0);
        due.is("no more are told", p.fault(600, 0), RulePlate.BEYOND);
        due.is("what", p.fault(600, 9), RulePlate.BEYOND);
        due.promise(17);
        due.is("told or not", p.faults(0, 0), 640);
        due.is("told or not", p.faults(1, 0), 2);
        due.is("told or not", p.faults(1, 1), 1);
    }

    /** The least is neither the first nor the last. */
    private static void leasts() {
        RulePlate p = new RulePlate();
        p.box(0, 0, square(0, 0), 302, false);
        p.box(0, 0, square(10, 4), 201, false);
        p.box(0, 0, square(20, 8), 403, false);
        p.rule(3, 0, 0, 99);
        p.flat(0);
        p.run();
        due.is("least", p.faults(0, 1), 2);
    }

    private static void asked() {
        due.promise(16);
        RulePlate p = new RulePlate();
        due.is("missing", p.fault(-1, 9), RulePlate.MISSING);
        p.box(0, 0, 0, 301, false);
        p.box(0, 0, 10, 201, false);
        p.flat(0);
        due.is("still missing", p.fault(0, 0), RulePlate.MISSING);
        p.run();
        due.is("none", p.fault(0, 0), RulePlate.BEYOND);
        due.promise(17);
        due.is("no rule", p.faults(0, 9), RulePlate.BEYOND);
        p.rule(0, 0, 0, 4);
        due.is("came behind the run", p.faults(0, 0), 0);
        due.is("came behind the run", p.faults(0, 1), RulePlate.NONE);
        p.rule(3, 1, 0, 4);
        p.run();
        due.promise(16);
        due.is("what 4", p.fault(0, 4), RulePlate.NO);
        due.is("what -1", p.fault(0, -1), RulePlate.NO);
        due.is("fault -1", p.fault(-1, 0), RulePlate.BEYOND);
        due.promise(17);
        due.is("how many", p.faults(0, 0), 7);
        due.is("least", p.faults(0, 1), 1);
        due.is("without", p.faults(1, 0), 0);
        due.is("without", p.faults(1, 1), RulePlate.NONE);
        due.is("what 2", p.faults(0, 2), RulePlate.NO);
        due.is("what -1", p.faults(0, -1), RulePlate.NO);
        due.is("rule 2", p.faults(2, 9), RulePlate.BEYOND);
        due.is("rule -1", p.faults(-1, 0), RulePlate.BEYOND);
        p.run();
        due.is("once more", p.faults(0, 0), 7);
        leasts();
        p.flat(0);
        due.is("no run of this drawing", p.faults(0, 9), RulePlate.MISSING);
        due.is("rule, ahead of missing", p.faults(2, 0), RulePlate.BEYOND);
        due.promise(16);
        due.is("no run of this drawing", p.fault(0, 0), RulePlate.MISSING);
    }
}
