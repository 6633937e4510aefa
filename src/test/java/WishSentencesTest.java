/** The document's sentences on the wish and on pairing that name a boundary, one by one. */
public final class WishSentencesTest {
    private static final Due due = new Due();

    public static void main(String[] args) {
        twelve();
        netsAndSizes();
        unwished();
        sizeAlike();
        netsOneWithOne();
        gateWithGate();
        gateIsAnEnd();
        eitherWayRound();
        inEachOrder();
        twelveDevices();
        triesEach();
        sizeUnlike();
        goesOn();
        fiveThousand();
        spent();
        emptyWish();
        sameMissing();
        noGate();
        notTwoEnds();
        notAsMany();
        triesTold();
        pairTold();
        pairMissing();
        pairBeyond();
        due.end();
    }

    private static int square(int x, int y) {
        return Tell.square(x, y);
    }

    private static int nets(int gate, int end, int otherEnd) {
        return Tell.nets(gate, end, otherEnd);
    }

    private static void twelve() {
        due.sentence("THE WISH: up to 12 things with a GATE, two ENDS (nets 0 .. 23, of its own) and a SIZE (0: any).");
        RulePlate p = new RulePlate();
        for (int i = 0; i < 12; i++) {
            due.is("thing " + i, p.wish(0, 0), i);
        }
        due.is("one more", p.wish(0, 0), Tell.FULL);
        due.is("one more, other nets", p.wish(nets(23, 23, 23), 4096), Tell.FULL);
        due.is("had", p.unwish(), 12);
        due.is("room again", p.wish(0, 0), 0);
    }

    private static void netsAndSizes() {
        due.sentence("A thing of THE WISH: its number. NO: nets 0 .. 23 (told as 24 * 24 * gate + 24 * end + other end),"
            + " SIZE 0 .. 4096; FULL.");
        RulePlate p = new RulePlate();
        for (int wrong : new int[] {Integer.MIN_VALUE, -1, 24 * 24 * 24, 24 * 24 * 24 + 1, Integer.MAX_VALUE}) {
            due.is("nets " + wrong, p.wish(wrong, 0), Tell.NO);
        }
        for (int wrong : new int[] {Integer.MIN_VALUE, -1, 4097, Integer.MAX_VALUE}) {
            due.is("size " + wrong, p.wish(0, wrong), Tell.NO);
        }
        int[][] right = {{0, 0}, {0, 4096}, {24 * 24 * 24 - 1, 0}, {24 * 24 * 24 - 1, 4096}, {23, 1}, {24, 1}, {575, 1},
            {576, 1}};
        for (int i = 0; i < right.length; i++) {
            due.is("nets " + right[i][0] + ", size " + right[i][1], p.wish(right[i][0], right[i][1]), i);
        }
    }

    private static void unwished() {
        due.sentence("THE WISH is empty: how many it had.");
        RulePlate p = new RulePlate();
        due.is("empty", p.unwish(), 0);
        p.wish(0, 0);
        due.is("one", p.unwish(), 1);
        due.is("empty again", p.unwish(), 0);
        p.wish(-1, 0);
        due.is("a refused one is none", p.unwish(), 0);
    }

    private static void sizeAlike() {
        due.sentence("SIZE alike (or any)");
        RulePlate p = Tell.devices(3);
        int[] sizes = {0, 1, 2, 3, 4, 4096};
        for (int size : sizes) {
            p.unwish();
            Tell.wish(p, size);
            due.is("3 with size " + size, p.same(), size == 0 || size == 3 ? 1 : 0);
        }
        RulePlate q = new RulePlate();
        q.box(0, 1, 0, Tell.size(64, 64), false);
        Tell.dot(q, 0, 2, 0, 0);
        Tell.dot(q, 0, 2, 2, 0);
        q.conducts(1, true);
        q.conducts(2, true);
        q.gates(1, 1, 2);
        q.flat(0);
        q.circuit();
        for (int size : new int[] {4095, 4096}) {
            q.unwish();
            Tell.wish(q, size);
            due.is("4096 with size " + size, q.same(), size == 4096 ? 1 : 0);
        }
    }

    private static void netsOneWithOne() {
        due.sentence("each net of a DEVICE (by GATE and ENDS; NETS with no DEVICE aside) with one of its nets,"
            + " one with one, both ways");
        RulePlate p = Tell.devices(1, 1);
        int[][] wishes = {{nets(0, 1, 2), nets(3, 4, 5), 1}, {nets(0, 1, 2), nets(0, 4, 5), 0},
            {nets(0, 1, 2), nets(3, 1, 5), 0}, {nets(0, 1, 2), nets(3, 4, 2), 0}, {nets(0, 1, 2), nets(1, 4, 5), 0},
            {nets(0, 1, 1), nets(3, 4, 5), 0}, {nets(0, 0, 2), nets(3, 4, 5), 0}, {nets(23, 22, 21), nets(20, 19, 18), 1}};
        for (int[] wish : wishes) {
            p.unwish();
            p.wish(wish[0], 0);
            p.wish(wish[1], 0);
            due.is("two devices apart with " + wish[0] + " and " + wish[1], p.same(), wish[2]);
        }
        // the wire is one net of both devices
        RulePlate q = wire();
        int[][] joined = {{nets(0, 1, 2), nets(3, 2, 4), 1}, {nets(0, 1, 2), nets(3, 4, 1), 1},
            {nets(0, 1, 2), nets(3, 4, 5), 0}, {nets(0, 1, 2), nets(3, 2, 1), 0}, {nets(0, 1, 2), nets(0, 2, 4), 0}};
        for (int[] wish : joined) {
            q.unwish();
            q.wish(wish[0], 0);
            q.wish(wish[1], 0);
            due.is("two devices on a wire with " + wish[0] + " and " + wish[1], q.same(), wish[2]);
        }
    }

    /** Two devices on one wire, and a net besides that has no device. */
    private static RulePlate wire() {
        RulePlate p = new RulePlate();
        p.path(0, 1, square(0, 5), square(12, 5), 1);
        p.path(0, 2, square(4, 3), square(4, 7), 1);
        p.path(0, 2, square(8, 3), square(8, 7), 1);
        p.path(0, 2, square(20, 20), square(22, 20), 1);
        p.made(8, 2, 1, 2);
        p.conducts(8, true);
        p.conducts(2, true);
        p.gates(2, 1, 8);
        p.flat(0);
        p.circuit();
        return p;
    }

    private static void gateWithGate() {
        due.sentence("GATE goes with GATE, both ENDS with both ENDS, either way round");
        RulePlate p = wire();
        // gates are nets 0 and 1, the wire 3, 4, 5; net 2 has no device
        p.wish(nets(10, 4, 5), 0);
        p.wish(nets(11, 4, 6), 0);
        due.is("same", p.same(), 1);
        int[] want = {10, 11, Tell.NONE, 5, 4, 6};
        for (int net = 0; net < 6; net++) {
            due.is("net " + net, p.pair(net, true), want[net]);
        }
        p.unwish();
        p.wish(nets(4, 10, 5), 0);
        p.wish(nets(4, 11, 6), 0);
        due.is("the wire wished as a gate of both", p.same(), 0);
    }

    /** The gate is joined with one of the ends. */
    private static void gateIsAnEnd() {
        due.sentence("one with one, both ways: GATE goes with GATE, both ENDS with both ENDS");
        RulePlate p = new RulePlate();
        Tell.dot(p, 0, 1, 4, 5);
        p.path(0, 2, square(4, 3), square(4, 7), 1);
        p.path(0, 2, square(0, 3), square(4, 3), 1);
        p.path(0, 2, square(0, 3), square(0, 5), 1);
        p.path(0, 3, square(0, 5), square(3, 5), 1);
        p.path(0, 3, square(5, 5), square(8, 5), 1);
        Tell.dot(p, 0, 4, 0, 5);
        p.conducts(2, true);
        p.conducts(3, true);
        p.joint(2, 4, 3);
        p.gates(2, 1, 3);
        p.flat(0);
        due.is("circuit", p.circuit(), 2);
        due.is("gate", p.device(0, 1), 0);
        due.is("first end", p.device(0, 2), 0);
        due.is("second end", p.device(0, 3), 1);
        int[][] wishes = {{nets(7, 7, 9), 1}, {nets(7, 9, 7), 1}, {nets(7, 8, 9), 0}, {nets(7, 9, 9), 0},
            {nets(7, 7, 7), 0}};
        for (int[] wish : wishes) {
            p.unwish();
            p.wish(wish[0], 0);
            due.is("with " + wish[0], p.same(), wish[1]);
        }
    }

    private static void eitherWayRound() {
        due.sentence("both ENDS with both ENDS, either way round");
        RulePlate p = wire();
        int[][] ways = {{5, 4, 4, 6}, {4, 5, 4, 6}, {5, 4, 6, 4}, {4, 5, 6, 4}};
        // if the first is the wrong way round as it is, the second fails both ways, and the first is turned
        int[] tries = {1 + 1, 1 + 2 + 1 + 1, 1 + 2, 1 + 2 + 1 + 2};
        for (int i = 0; i < 4; i++) {
            p.unwish();
            p.wish(nets(10, ways[i][0], ways[i][1]), 1);
            p.wish(nets(11, ways[i][2], ways[i][3]), 1);
            due.is("way " + i, p.same(), 1);
            due.is("the wire between them", p.pair(4, true), 4);
            due.is("tries of way " + i, p.tries(), tries[i]);
        }
    }

    /** Three on one wire, wished in each order of things: what was bound by a try that failed is free again. */
    private static void inEachOrder() {
        due.sentence("each with things of THE WISH from 0 on that none has");
        RulePlate p = new RulePlate();
        p.path(0, 1, square(0, 5), square(20, 5), 1);
        for (int i = 0; i < 3; i++) {
            p.path(0, 2, square(4 + 4 * i, 3 + i), square(4 + 4 * i, 7), 1);
        }
        p.made(8, 2, 1, 2);
        p.conducts(8, true);
        p.conducts(2, true);
        p.gates(2, 1, 8);
        p.flat(0);
        p.circuit();
        int[][] things = {{10, 20, 21}, {11, 22, 21}, {12, 22, 23}};
        int[][] orders = {{0, 1, 2}, {0, 2, 1}, {1, 0, 2}, {1, 2, 0}, {2, 0, 1}, {2, 1, 0}};
        for (int[] order : orders) {
            p.unwish();
            for (int thing : order) {
                p.wish(nets(things[thing][0], things[thing][1], things[thing][2]), 0);
            }
            due.is("same", p.same(), 1);
            // the middle one is where it is; the others may be changed about
            due.is("the middle one", order[p.pair(1, false)], 1);
            due.is("its gate", p.pair(1, true), 11);
            due.is("the first one comes first", order[p.pair(0, false)], order[0] == 1 ? order[1] : order[0]);
            due.is("its gate", p.pair(0, true), 10 + order[p.pair(0, false)]);
            due.is("its outer end", p.pair(3, true), order[p.pair(0, false)] == 0 ? 20 : 23);
        }
    }

    private static void twelveDevices() {
        due.sentence("THE WISH: up to 12 things");
        RulePlate p = shared(12);
        for (int i = 0; i < 12; i++) {
            p.wish(nets(23, 22, i), 0);
        }
        due.is("devices", p.device(Tell.NONE, 0), 12);
        due.is("as many as there can be", p.same(), 1);
        due.is("tries", p.tries(), 12);
        due.is("the last device", p.pair(11, false), 11);
        due.is("the last net", p.pair(13, true), 11);
    }

    /** So many devices that have their gate, net 0, and one end, net 1, in common; the other is their own. */
    private static RulePlate shared(int many) {
        RulePlate p = new RulePlate();
        p.path(0, 1, square(0, 0), square(0, 2), 1);
        p.path(1, 2, square(0, 1), square(63, 1), 1);
        p.path(1, 1, square(0, 0), square(63, 0), 1);
        for (int i = 0; i < many; i++) {
            p.put(1, 0, square(5 * i, 0), 0, false);
        }
        p.made(8, 2, 1, 2);
        p.conducts(8, true);
        p.conducts(2, true);
        p.gates(2, 1, 8);
        p.flat(1);
        p.circuit();
        return p;
    }

    private static void triesEach() {
        due.sentence("TRIES: DEVICE by DEVICE, by numbers, each with things of THE WISH from 0 on that none has,"
            + " ENDS first as they are, then the other way round: a TRY each");
        for (int many = 1; many <= 8; many++) {
            int[] sizes = new int[many];
            int[] turned = new int[many];
            int want = 0;
            for (int i = 0; i < many; i++) {
                sizes[i] = 1 + i % 7;
                turned[many - 1 - i] = 1 + i % 7;
            }
            // those ahead of it in the wish that are free are tried both ways
            boolean[] taken = new boolean[many];
            for (int i = 0; i < many; i++) {
                int thing = 0;
                while (taken[thing] || turned[thing] != sizes[i]) {
                    want += taken[thing] ? 0 : 2;
                    thing++;
                }
                want++;
                taken[thing] = true;
            }
            RulePlate p = Tell.devices(sizes);
            Tell.wish(p, sizes);
            due.is(many + " in order", p.same(), 1);
            due.is("a try each", p.tries(), many);
            p.unwish();
            Tell.wish(p, turned);
            due.is(many + " turned about", p.same(), 1);
            due.is("tries of " + many + " turned about", p.tries(), want);
        }
    }

    private static void sizeUnlike() {
        due.sentence("a TRY each (also where SIZE is unlike)");
        RulePlate p = Tell.devices(1);
        Tell.wish(p, 2);
        due.is("unlike", p.same(), 0);
        due.is("both ways are tries", p.tries(), 2);
        RulePlate q = Tell.devices(1, 1, 1);
        Tell.wish(q, 2, 2, 2);
        due.is("unlike", q.same(), 0);
        due.is("the first with all, both ways", q.tries(), 6);
    }

    private static void goesOn() {
        due.sentence("it goes on if nets go one with one so far");
        RulePlate p = Tell.devices(1, 1);
        p.wish(nets(0, 1, 1), 0);
        p.wish(nets(2, 2, 3), 0);
        due.is("no first goes", p.same(), 0);
        due.is("tries", p.tries(), 4);
        p.unwish();
        p.wish(nets(0, 1, 2), 0);
        p.wish(nets(2, 3, 4), 0);
        due.is("a gate that is another's end", p.same(), 0);
        // each of both things goes with the first device both ways, then the other fails both ways
        due.is("tries", p.tries(), 4 + 4 * 2);
    }

    private static void fiveThousand() {
        due.sentence("5000 at most: SPENT.");
        tried(new int[] {1, 4, 2, 4, 1, 3, 2}, new int[] {0, 1, 0, 3, 1, 2, 1}, 0, 4998);
        tried(new int[] {2, 1, 2, 2, 1, 2}, new int[] {0, 1, 1, 1, 0, 2}, 0, 5000);
        tried(new int[] {2, 2, 1, 3, 3, 1, 3}, new int[] {0, 1, 2, 3, 2, 1, 0}, 1, 4999);
        tried(new int[] {3, 4, 4, 1, 2, 1, 1, 3}, new int[] {4, 0, 3, 2, 3, 1, 4, 0}, 1, 5000);
        // this one would go with the 5001st
        tried(new int[] {3, 1, 2, 1, 4, 1, 4}, new int[] {1, 0, 1, 4, 0, 1, 3}, Tell.SPENT, 5000);
    }

    private static void tried(int[] devices, int[] things, int same, int tries) {
        RulePlate p = Tell.devices(devices);
        Tell.wish(p, things);
        due.is("devices", p.device(Tell.NONE, 0), devices.length);
        due.is("same with " + tries, p.same(), same);
        due.is("tries", p.tries(), tries);
        due.is("pair", p.pair(0, false) >= 0 == (same == 1));
    }

    private static void spent() {
        due.sentence("SPENT (nothing is PAIRED then).");
        RulePlate p = Tell.devices(1, 1, 1, 1, 1, 1, 1, 1);
        Tell.wish(p, 1, 1, 1, 1, 1, 1, 1, 1);
        due.is("same", p.same(), 1);
        due.is("pair", p.pair(7, false), 7);
        p.unwish();
        Tell.wish(p, 1, 1, 1, 1, 1, 1, 1, 9);
        due.is("spent", p.same(), Tell.SPENT);
        due.is("a device", p.pair(0, false), Tell.MISSING);
        due.is("a net", p.pair(0, true), Tell.MISSING);
        due.is("it counts as refused", p.status(Tell.SPENT), 1);
        due.is("spent again", p.same(), Tell.SPENT);
        due.is("it counts as refused", p.status(Tell.SPENT), 2);
        p.unwish();
        Tell.wish(p, 1, 1, 1, 1, 1, 1, 1, 1);
        due.is("same again", p.same(), 1);
        due.is("tries", p.tries(), 8);
    }

    private static void emptyWish() {
        due.sentence("Whether THE CIRCUIT can be PAIRED: 1, 0 (no DEVICES with an empty WISH: 1, 0 TRIES).");
        RulePlate p = new RulePlate();
        Tell.dot(p, 0, 0, 0, 0);
        p.conducts(0, true);
        p.flat(0);
        p.circuit();
        due.is("same", p.same(), 1);
        due.is("tries", p.tries(), 0);
        due.is("a net goes with nothing", p.pair(0, true), Tell.NONE);
        due.is("no device", p.pair(0, false), Tell.BEYOND);
        p.wish(0, 0);
        due.is("no devices with one thing", p.same(), 0);
        due.is("tries", p.tries(), 0);
        RulePlate q = Tell.devices(1);
        due.is("a device with an empty wish", q.same(), 0);
        due.is("tries", q.tries(), 0);
    }

    private static void sameMissing() {
        due.sentence("MISSING; SPENT (nothing is PAIRED then).");
        RulePlate p = new RulePlate();
        due.is("no drawing", p.same(), Tell.MISSING);
        p.flat(0);
        due.is("no circuit", p.same(), Tell.MISSING);
        p.circuit();
        due.is("circuit", p.same(), 1);
        p.flat(0);
        due.is("no circuit of this drawing", p.same(), Tell.MISSING);
    }

    private static void noGate() {
        due.sentence("(DEVICES that have no GATE or not two ENDS go with none: 0; so if there are not as many. 0 TRIES then.)");
        RulePlate p = Tell.devices(1, 1);
        Tell.wish(p, 0, 0);
        due.is("same", p.same(), 1);
        p.conducts(2, false);
        p.circuit();
        due.is("no gate", p.device(1, 1), Tell.NONE);
        due.is("same", p.same(), 0);
        due.is("tries", p.tries(), 0);
        due.is("pair", p.pair(0, false), Tell.MISSING);
    }

    private static void notTwoEnds() {
        due.sentence("(DEVICES that have no GATE or not two ENDS go with none: 0");
        for (int ends = 0; ends < 3; ends++) {
            lacking(0, ends);
            lacking(1, ends);
        }
    }

    /** One of two devices has so many ends; the other is whole. */
    private static void lacking(int which, int ends) {
        RulePlate p = new RulePlate();
        int y = which == 0 ? 15 : 5;
        p.path(0, 1, square(0, y), square(8, y), 1);
        p.path(0, 2, square(4, y - 2), square(4, y + 2), 1);
        p.path(0, 1, square(24 - Math.min(1, ends), 20 - y), square(24 + ends / 2, 20 - y), 1);
        p.path(0, 2, square(24, 18 - y), square(24, 22 - y), 1);
        p.made(8, 2, 1, 2);
        p.conducts(8, true);
        p.conducts(2, true);
        p.gates(2, 1, 8);
        p.flat(0);
        p.circuit();
        Tell.wish(p, 0, 0);
        due.is("devices", p.device(Tell.NONE, 0), 2);
        due.is("first of " + ends + " ends", p.device(which, 2) != Tell.NONE == ends > 0);
        due.is("second of " + ends + " ends", p.device(which, 3) != Tell.NONE == ends > 1);
        due.is("same with " + ends, p.same(), ends == 2 ? 1 : 0);
        due.is("tries with " + ends, p.tries(), ends == 2 ? 2 : 0);
    }

    private static void notAsMany() {
        due.sentence("so if there are not as many. 0 TRIES then.)");
        RulePlate p = Tell.devices(1, 1, 1);
        for (int things = 0; things <= 5; things++) {
            due.is("three with " + things, p.same(), things == 3 ? 1 : 0);
            due.is("tries", p.tries(), things == 3 ? 3 : 0);
            p.wish(nets(3 * things, 3 * things + 1, 3 * things + 2), 0);
        }
        // thirteen are more than a wish has
        RulePlate q = shared(13);
        for (int i = 0; i < 12; i++) {
            q.wish(nets(23, 22, i), 0);
        }
        due.is("thirteen", q.device(Tell.NONE, 0), 13);
        due.is("thirteen with twelve", q.same(), 0);
        due.is("tries", q.tries(), 0);
    }

    private static void triesTold() {
        due.sentence("TRIES of the latest same(), of one that was SPENT, too (5000 then; 0 ahead of any).");
        RulePlate p = new RulePlate();
        due.is("ahead of any", p.tries(), 0);
        p.same();
        due.is("a refused one is none", p.tries(), 0);
        RulePlate q = Tell.devices(1, 1, 1, 1, 1, 1, 1);
        due.is("ahead of any", q.tries(), 0);
        Tell.wish(q, 1, 1, 1, 1, 1, 1, 9);
        q.same();
        due.is("spent", q.tries(), 5000);
        q.unwish();
        due.is("the latest is still that one", q.tries(), 5000);
        q.same();
        due.is("none for an empty wish", q.tries(), 0);
        Tell.wish(q, 1, 1, 1, 1, 1, 1, 1);
        q.same();
        due.is("one each", q.tries(), 7);
        due.is("not asked for again", q.tries(), 7);
    }

    private static void pairTold() {
        due.sentence("With what DEVICE i (net false), or NET i, goes by the latest same() that was 1; NONE: with nothing.");
        RulePlate p = Tell.devices(2, 1);
        p.wish(nets(23, 0, 22), 1);
        p.wish(nets(1, 21, 20), 2);
        due.is("same", p.same(), 1);
        int[] devices = {1, 0};
        int[] nets = {1, 23, 21, 20, 0, 22};
        for (int i = 0; i < 2; i++) {
            due.is("device " + i, p.pair(i, false), devices[i]);
        }
        for (int i = 0; i < 6; i++) {
            due.is("net " + i, p.pair(i, true), nets[i]);
        }
        RulePlate q = wire();
        q.wish(nets(0, 1, 2), 0);
        q.wish(nets(3, 2, 4), 0);
        q.same();
        due.is("a net with no device", q.pair(2, true), Tell.NONE);
    }

    private static void pairMissing() {
        due.sentence("MISSING: there was none for this CIRCUIT and WISH; BEYOND.");
        RulePlate p = Tell.devices(1);
        due.is("ahead of any same()", p.pair(0, false), Tell.MISSING);
        due.is("no such device, either", p.pair(99, false), Tell.MISSING);
        Tell.wish(p, 0);
        due.is("ahead of any same()", p.pair(0, true), Tell.MISSING);
        due.is("same", p.same(), 1);
        due.is("pair", p.pair(0, false), 0);
        p.wish(0, 0);
        due.is("another wish", p.pair(0, false), Tell.MISSING);
        due.is("same", p.same(), 0);
        due.is("none was 1", p.pair(0, false), Tell.MISSING);
        p.unwish();
        Tell.wish(p, 0);
        due.is("not for this one yet", p.pair(0, false), Tell.MISSING);
        p.same();
        due.is("pair", p.pair(0, false), 0);
        p.circuit();
        due.is("another circuit", p.pair(0, false), Tell.MISSING);
        p.same();
        p.unwish();
        due.is("no wish", p.pair(0, false), Tell.MISSING);
        Tell.wish(p, 0);
        p.same();
        p.flat(7);
        due.is("another drawing", p.pair(0, false), Tell.MISSING);
    }

    private static void pairBeyond() {
        due.sentence("MISSING: there was none for this CIRCUIT and WISH; BEYOND.");
        RulePlate p = Tell.devices(1, 1);
        Tell.wish(p, 0, 0);
        p.same();
        for (int i : new int[] {Integer.MIN_VALUE, -1, 2, Integer.MAX_VALUE}) {
            due.is("device " + i, p.pair(i, false), Tell.BEYOND);
        }
        for (int i : new int[] {Integer.MIN_VALUE, -1, 6, Integer.MAX_VALUE}) {
            due.is("net " + i, p.pair(i, true), Tell.BEYOND);
        }
        due.is("the last device", p.pair(1, false), 1);
        due.is("the last net", p.pair(5, true), 5);
    }
}
