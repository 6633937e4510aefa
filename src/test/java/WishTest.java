/** Promises 25 to 29: the wish, and how the circuit is paired with it. */
public final class WishTest {
    private static final Due due = new Due();

    public static void main(String[] args) {
        wishes();
        unwished();
        paired();
        sizes();
        notPaired();
        chained();
        spent();
        spentAtTheEdge();
        pairs();
        due.end();
    }

    private static int square(int x, int y) {
        return 64 * y + x;
    }

    private static int nets(int gate, int end, int other) {
        return 576 * gate + 24 * end + other;
    }

    /** So many devices apart from one another, with nets of their own: gates 0 and on, then ends two by two. */
    private static RulePlate apart(int many) {
        RulePlate p = new RulePlate();
        p.path(0, 1, square(0, 1), square(4, 1), 1);
        p.path(0, 2, square(2, 0), square(2, 2), 1);
        for (int i = 0; i < many; i++) {
            p.put(1, 0, square(0, 4 * i), 0, false);
        }
        p.made(8, 2, 1, 2);
        p.conducts(8, true);
        p.conducts(2, true);
        p.gates(2, 1, 8);
        p.flat(1);
        p.circuit();
        return p;
    }

    private static void wishes() {
        due.promise(25);
        RulePlate p = new RulePlate();
        due.is("nets too great", p.wish(24 * 24 * 24, 0), RulePlate.NO);
        due.is("nets -1", p.wish(-1, 0), RulePlate.NO);
        due.is("size 4097", p.wish(0, 4097), RulePlate.NO);
        due.is("size -1", p.wish(0, -1), RulePlate.NO);
        due.is("greatest", p.wish(24 * 24 * 24 - 1, 4096), 0);
        for (int i = 1; i < 12; i++) {
            due.is("thing " + i, p.wish(0, 0), i);
        }
        due.is("full", p.wish(0, 0), RulePlate.FULL);
        due.is("full, size", p.wish(0, 4097), RulePlate.NO);
    }

    private static void unwished() {
        due.promise(26);
        RulePlate p = apart(1);
        due.is("empty", p.unwish(), 0);
        p.wish(0, 0);
        p.wish(1, 0);
        due.is("had", p.unwish(), 2);
        due.is("empty", p.unwish(), 0);
        due.is("from 0 on", p.wish(nets(0, 1, 2), 0), 0);
        due.is("same", p.same(), 1);
        due.is("had", p.unwish(), 1);
        due.is("not paired any more", p.pair(0, false), RulePlate.MISSING);
    }

    private static void paired() {
        due.promise(27);
        RulePlate p = new RulePlate();
        due.is("missing", p.same(), RulePlate.MISSING);
        p.flat(0);
        due.is("missing", p.same(), RulePlate.MISSING);
        p.circuit();
        due.is("none with none", p.same(), 1);
        due.promise(28);
        due.is("tries", p.tries(), 0);
        p.wish(0, 0);
        due.promise(27);
        due.is("none with one", p.same(), 0);
        // nets: gates 0, 1; ends 2, 3 and 4, 5
        RulePlate q = apart(2);
        q.wish(nets(9, 8, 7), 1);
        q.wish(nets(6, 5, 4), 0);
        due.is("same", q.same(), 1);
        due.promise(28);
        due.is("tries", q.tries(), 2);
        due.promise(29);
        due.is("pair", q.pair(0, false), 0);
        due.is("pair", q.pair(1, false), 1);
        int[] want = {9, 6, 8, 7, 5, 4};
        for (int i = 0; i < 6; i++) {
            due.is("pair(" + i + ", true)", q.pair(i, true), want[i]);
        }
    }

    private static void sizes() {
        due.promise(27);
        RulePlate p = apart(2);
        p.wish(nets(0, 1, 2), 2);
        p.wish(nets(3, 4, 5), 1);
        due.is("size is unlike", p.same(), 0);
        due.promise(28);
        // the first with both, each both ways; behind each way of the second once more the first both ways
        due.is("tries", p.tries(), 2 + 1 + 2 + 1 + 2);
        due.promise(27);
        p.unwish();
        p.wish(nets(0, 1, 2), 1);
        p.wish(nets(3, 4, 5), 1);
        due.is("size is alike", p.same(), 1);
    }

    private static void notPaired() {
        due.promise(27);
        RulePlate p = apart(2);
        p.wish(nets(0, 1, 2), 0);
        due.is("not as many", p.same(), 0);
        due.is("tries", p.tries(), 0);
        p.wish(nets(0, 3, 4), 0);
        due.is("gates are one net here, not there", p.same(), 0);
        due.is("tries", p.tries(), 2 * 2 + 4 * 2);
        p.unwish();
        p.wish(nets(0, 1, 2), 0);
        p.wish(nets(3, 2, 4), 0);
        due.is("ends are one net here, not there", p.same(), 0);
        p.unwish();
        p.wish(nets(0, 1, 1), 0);
        p.wish(nets(3, 2, 4), 0);
        due.is("both ends are one net here, not there", p.same(), 0);
        // g does not conduct: no device has a gate
        p.conducts(2, false);
        p.circuit();
        p.unwish();
        p.wish(nets(0, 1, 2), 0);
        p.wish(nets(3, 4, 5), 0);
        due.is("no gate", p.same(), 0);
        due.is("tries", p.tries(), 0);
        RulePlate q = new RulePlate();
        q.box(0, 0, 0, 201, false);
        q.box(0, 1, 0, 101, false);
        q.conducts(0, true);
        q.gates(0, 1, 0);
        q.flat(0);
        q.circuit();
        q.wish(nets(0, 0, 1), 0);
        due.is("one device", q.device(-1, 0), 1);
        due.is("not two ends", q.same(), 0);
        due.is("tries", q.tries(), 0);
    }

    /** Three in a row on one wire, wished in another order and the other way round. */
    private static void chained() {
        due.promise(27);
        RulePlate p = new RulePlate();
        p.path(0, 1, square(0, 5), square(20, 5), 1);
        p.path(0, 2, square(4, 3), square(4, 7), 1);
        p.path(0, 2, square(8, 4), square(8, 7), 1);
        p.path(0, 2, square(12, 5), square(12, 7), 1);
        p.made(8, 2, 1, 2);
        p.conducts(8, true);
        p.conducts(2, true);
        p.gates(2, 1, 8);
        p.flat(0);
        due.is("circuit", p.circuit(), 7);
        p.wish(nets(10, 20, 21), 0);
        p.wish(nets(11, 22, 21), 0);
        p.wish(nets(12, 22, 23), 0);
        due.is("same", p.same(), 1);
        due.promise(28);
        // 0 with 0; 1 with 1 the other way round; 2 with 2
        due.is("tries", p.tries(), 1 + 2 + 1);
        p.unwish();
        p.wish(nets(11, 22, 21), 0);
        p.wish(nets(10, 20, 21), 0);
        p.wish(nets(12, 22, 23), 0);
        due.promise(27);
        due.is("same", p.same(), 1);
        due.promise(28);
        // 0 with 0: 1 with 1 the other way round: 2 with 2 fails twice; then 1 with 2 fails twice;
        // 0 with 0 the other way round: 1 with 1 fails twice; 1 with 2 goes: 2 with 1 fails twice, then fails;
        // 0 with 1: 1 with 0 the other way round; 2 with 2
        due.is("tries", p.tries(), 1 + 2 + 2 + 2 + 1 + 2 + 1 + 2 + 1 + 1 + 2 + 1);
        due.promise(29);
        due.is("pair", p.pair(0, false), 1);
        due.is("pair", p.pair(1, false), 0);
        due.is("pair", p.pair(2, false), 2);
        due.is("pair", p.pair(0, true), 10);
        due.is("pair", p.pair(5, true), 22);
    }

    /** Devices apart fit everywhere but for the last, so all is tried. */
    private static void spent() {
        due.promise(27);
        RulePlate p = apart(7);
        for (int i = 0; i < 6; i++) {
            p.wish(nets(3 * i, 3 * i + 1, 3 * i + 2), 0);
        }
        p.wish(nets(18, 19, 20), 9);
        due.is("spent", p.same(), RulePlate.SPENT);
        due.promise(28);
        due.is("tries", p.tries(), 5000);
        due.promise(29);
        due.is("nothing is paired", p.pair(0, false), RulePlate.MISSING);
        due.promise(34);
        due.is("status", p.status(RulePlate.SPENT), 1);
        p.flat(7);
        due.promise(28);
        due.is("a refused one changes nothing", p.same(), RulePlate.MISSING);
        due.is("tries of the latest same that was answered", p.tries(), 5000);
    }

    /** 5000 tries are no more than may be: with things that never fit, 2 n tries are made for the first. */
    private static void spentAtTheEdge() {
        due.promise(27);
        // all of the first five fit each other, the last fits nothing
        int[] tries = new int[7];
        for (int n = 1; n <= 6; n++) {
            RulePlate p = apart(n);
            for (int i = 0; i < n - 1; i++) {
                p.wish(nets(3 * i, 3 * i + 1, 3 * i + 2), 0);
            }
            p.wish(nets(21, 22, 23), 9);
            int got = p.same();
            tries[n] = p.tries();
            int want = tries(n, n - 1);
            due.is("same of " + n, got, want > 5000 ? RulePlate.SPENT : 0);
            due.is("tries of " + n, tries[n], Math.min(want, 5000));
        }
    }

    /** With so many things left, of which so many fit: each is tried both ways, and goes on if it fits. */
    private static int tries(int left, int fitting) {
        return left == 0 ? 0 : 2 * left + 2 * fitting * (fitting == 0 ? 0 : tries(left - 1, fitting - 1));
    }

    private static void pairs() {
        due.promise(29);
        RulePlate p = apart(1);
        due.is("missing", p.pair(-1, false), RulePlate.MISSING);
        p.box(1, 2, square(40, 40), 101, false);
        p.flat(1);
        p.circuit();
        p.wish(nets(23, 22, 21), 0);
        due.is("same", p.same(), 1);
        due.is("thing", p.pair(0, false), 0);
        due.is("net", p.pair(0, true), 23);
        due.is("a net with no device", p.pair(1, true), RulePlate.NONE);
        due.is("net", p.pair(2, true), 22);
        due.is("device 1", p.pair(1, false), RulePlate.BEYOND);
        due.is("device -1", p.pair(-1, false), RulePlate.BEYOND);
        due.is("net 4", p.pair(4, true), RulePlate.BEYOND);
        due.is("net -1", p.pair(-1, true), RulePlate.BEYOND);
        due.is("a refused wish", p.wish(-1, 0), RulePlate.NO);
        due.is("changes nothing", p.pair(0, false), 0);
        p.wish(0, 0);
        due.is("another wish", p.pair(0, false), RulePlate.MISSING);
        due.is("same", p.same(), 0);
        due.is("none was 1", p.pair(0, false), RulePlate.MISSING);
        p.unwish();
        p.wish(nets(0, 1, 2), 0);
        p.same();
        due.is("again", p.pair(0, true), 0);
        p.circuit();
        due.is("another circuit", p.pair(0, true), RulePlate.MISSING);
        p.same();
        p.flat(1);
        due.is("another drawing", p.pair(0, true), RulePlate.MISSING);
    }
}
