/** Promises 30 to 34: the row, and how many calls were refused. */
public final class RowsTest {
    private static final Due due = new Due();

    public static void main(String[] args) {
        laid();
        torn();
        asked();
        copied();
        wholeCopies();
        status();
        due.end();
    }

    private static RulePlate drawn() {
        RulePlate p = new RulePlate();
        p.path(0, 3, 64 * 5 + 2, 64 * 5 + 4, 1);
        p.path(0, 3, 64 * 5 + 63, 64 * 5 + 63, 1);
        p.path(0, 3, 64 * 6, 64 * 6 + 63, 1);
        p.made(9, 1, 3, 3);
        p.flat(0);
        return p;
    }

    private static void row(RulePlate p, String want) {
        for (int i = 0; i < want.length(); i++) {
            due.is("row(" + i + ") of " + want, p.row(i), want.charAt(i) - '0');
        }
    }

    private static void laid() {
        due.promise(30);
        RulePlate p = new RulePlate();
        due.is("missing", p.lay(0, 0), RulePlate.MISSING);
        due.is("layer", p.lay(16, 0), RulePlate.BEYOND);
        due.is("layer", p.lay(-1, 0), RulePlate.BEYOND);
        due.is("y", p.lay(0, 64), RulePlate.BEYOND);
        due.is("y", p.lay(0, -1), RulePlate.BEYOND);
        p = drawn();
        due.is("lay", p.lay(3, 5), 4);
        row(p, "0011100");
        due.is("last", p.row(63), 1);
        due.is("made", p.lay(9, 6), 64);
        row(p, "1111111");
        due.is("refused", p.lay(9, 64), RulePlate.BEYOND);
        row(p, "1");
        p.flat(1);
        due.is("it stays when another cell is laid flat", p.row(0), 1);
        due.is("empty", p.lay(3, 5), 0);
        row(p, "000");
    }

    private static void torn() {
        due.promise(31);
        RulePlate p = drawn();
        due.is("at first", p.tear(), 0);
        p.lay(3, 5);
        due.is("tear", p.tear(), 1);
        due.is("again", p.tear(), 0);
        due.is("gone", p.row(2), RulePlate.MISSING);
        due.is("gone", p.copy(0, 0, 1), RulePlate.MISSING);
        p.lay(3, 6);
        due.is("there again", p.row(2), 1);
    }

    private static void asked() {
        due.promise(32);
        RulePlate p = drawn();
        due.is("missing", p.row(64), RulePlate.MISSING);
        p.lay(3, 5);
        due.is("64", p.row(64), RulePlate.BEYOND);
        due.is("-1", p.row(-1), RulePlate.BEYOND);
        due.is("0", p.row(0), 0);
        due.is("63", p.row(63), 1);
    }

    private static void copied() {
        due.promise(33);
        RulePlate p = drawn();
        due.is("missing", p.copy(-1, -1, -1), RulePlate.MISSING);
        p.lay(3, 5);
        due.is("below", p.copy(-1, 99, -1), RulePlate.BELOW);
        due.is("i below 0", p.copy(-1, 0, 1), RulePlate.COPY);
        due.is("j below 0", p.copy(0, -1, 1), RulePlate.COPY);
        due.is("i + n", p.copy(61, 0, 4), RulePlate.COPY);
        due.is("j + n", p.copy(0, 61, 4), RulePlate.COPY);
        due.is("i 65", p.copy(65, 0, 0), RulePlate.COPY);
        due.is("far", p.copy(Integer.MAX_VALUE, 0, Integer.MAX_VALUE), RulePlate.COPY);
        due.is("far", p.copy(1, 1, Integer.MAX_VALUE), RulePlate.COPY);
        row(p, "0011100000");
        due.is("up", p.copy(2, 3, 4), 4);
        row(p, "0011110000");
        due.is("down", p.copy(1, 0, 6), 6);
        row(p, "0111100000");
        due.is("zeros come too", p.copy(8, 2, 2), 2);
        row(p, "0100100000");
        due.is("to the end", p.copy(1, 60, 4), 4);
        due.is("60", p.row(60), 1);
        due.is("61", p.row(61), 0);
        due.is("63", p.row(63), 1);
        due.is("from the end", p.copy(60, 6, 4), 4);
        row(p, "01001010010");
    }

    private static void wholeCopies() {
        due.promise(33);
        RulePlate p = drawn();
        p.lay(3, 5);
        due.is("all", p.copy(0, 0, 64), 64);
        due.is("none", p.copy(64, 64, 0), 0);
        due.is("none", p.copy(0, 64, 0), 0);
        row(p, "0011100");
        due.is("last", p.row(63), 1);
        due.is("63", p.copy(0, 1, 63), 63);
        row(p, "00011100");
        due.is("last", p.row(63), 0);
        due.is("65", p.copy(0, 0, 65), RulePlate.COPY);
        p.lay(3, 5);
        due.is("the drawing is not changed", p.row(2), 1);
    }

    private static void status() {
        due.promise(34);
        RulePlate p = new RulePlate();
        p.box(8, 0, 0, 101, false);
        p.box(0, 0, 0, 0, false);
        p.box(0, 0, 0, 101, false);
        p.times(0, 0, 300, 300);
        p.area(0);
        p.flat(0);
        p.lay(0, 0);
        p.copy(0, 0, -1);
        p.copy(0, 0, 65);
        p.net(0, 0);
        p.circuit();
        p.net(0, 0);
        p.conducts(0, true);
        p.circuit();
        p.name(0, 0);
        p.name(0, -5);
        for (int i = 0; i < 9; i++) {
            p.joint(0, 0, 0);
        }
        due.is("MISSING", p.status(RulePlate.MISSING), 2);
        due.is("BEYOND", p.status(RulePlate.BEYOND), 1);
        due.is("BELOW", p.status(RulePlate.BELOW), 2);
        due.is("KIND", p.status(RulePlate.KIND), 1);
        due.is("COPY", p.status(RulePlate.COPY), 1);
        due.is("NO", p.status(RulePlate.NO), 2);
        due.is("FULL", p.status(RulePlate.FULL), 1);
        due.is("SPENT", p.status(RulePlate.SPENT), 0);
        due.is("NONE is no refusal", p.status(RulePlate.NONE), RulePlate.NO);
        due.is("-10", p.status(-10), RulePlate.NO);
        due.is("far", p.status(Integer.MIN_VALUE), RulePlate.NO);
        due.is("far", p.status(Integer.MAX_VALUE), RulePlate.NO);
        due.is("these count", p.status(RulePlate.NO), 6);
    }
}
