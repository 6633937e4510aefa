/** The document's sentences on rules and faults that name a boundary, one by one. */
public final class RuleSentencesTest {
    private static final Due due = new Due();
    private static final int[] GREATEST = {64, 64, 9, 4096, 4096};

    public static void main(String[] args) {
        sixteen();
        numbers();
        kindsAndLayers();
        wide();
        wideFewer();
        apart();
        apartFewer();
        linesEnd();
        inside();
        insideLeast();
        insideLeastAtBorders();
        insideBorder();
        areaFewer();
        areaTold();
        shareFewer();
        shareFields();
        ruleByRule();
        rowsFirst();
        byFirstSquare();
        sixHundred();
        runs();
        runAgain();
        faultAsked();
        faultsAsked();
        leastMeasure();
        cameBehind();
        due.end();
    }

    private static int square(int x, int y) {
        return Tell.square(x, y);
    }

    private static int size(int wide, int high) {
        return Tell.size(wide, high);
    }

    private static void fault(RulePlate p, int i, int... want) {
        for (int what = 0; what < 4; what++) {
            due.is("fault(" + i + ", " + what + ")", p.fault(i, what), want[what]);
        }
    }

    /** How many faults one rule finds. */
    private static int found(RulePlate p, int kind, int a, int b, int n) {
        int rule = p.rule(kind, a, b, n);
        due.is("rule " + kind + " with " + n + " came", rule >= 0);
        p.run();
        return p.faults(rule, 0);
    }

    private static void sixteen() {
        due.sentence("RULES, 16 at most, numbered as they come");
        RulePlate p = new RulePlate();
        p.flat(0);
        for (int i = 0; i < 16; i++) {
            due.is("not there yet", p.faults(i, 0), Tell.BEYOND);
            due.is("rule " + i, p.rule(i % 5, 0, 0, 9), i);
        }
        for (int kind = 0; kind < 5; kind++) {
            due.is("one more of kind " + kind, p.rule(kind, 0, 0, 9), Tell.FULL);
        }
        p.run();
        due.is("the last", p.faults(15, 0), 0);
        due.is("none behind it", p.faults(16, 0), Tell.BEYOND);
    }

    private static void numbers() {
        due.sentence("a number n (0 .. 64; of 2 0 .. 9; of 3, 4 0 .. 4096)");
        for (int kind = 0; kind < 5; kind++) {
            RulePlate p = new RulePlate();
            int[] wrong = {Integer.MIN_VALUE, -1, GREATEST[kind] + 1, Integer.MAX_VALUE};
            for (int n : wrong) {
                due.is("kind " + kind + ", n " + n, p.rule(kind, 0, 0, n), Tell.NO);
            }
            due.is("kind " + kind + ", n 0", p.rule(kind, 0, 0, 0), 0);
            due.is("kind " + kind + ", n " + GREATEST[kind], p.rule(kind, 0, 0, GREATEST[kind]), 1);
        }
    }

    private static void kindsAndLayers() {
        due.sentence("A RULE comes: its number. NO: KIND; BEYOND (a, of INSIDE b); NO: n; FULL.");
        RulePlate p = new RulePlate();
        for (int kind : new int[] {Integer.MIN_VALUE, -1, 5, Integer.MAX_VALUE}) {
            due.is("kind " + kind, p.rule(kind, 0, 0, 0), Tell.NO);
            due.is("kind " + kind + ", a", p.rule(kind, 16, 0, 0), Tell.NO);
        }
        int number = 0;
        for (int kind = 0; kind < 5; kind++) {
            for (int layer : new int[] {Integer.MIN_VALUE, -1, 16, Integer.MAX_VALUE}) {
                due.is("kind " + kind + ", a " + layer, p.rule(kind, layer, 0, -1), Tell.BEYOND);
            }
            due.is("b -1, of kind " + kind, p.rule(kind, 15, -1, 0), kind == 2 ? Tell.BEYOND : number++);
            due.is("b 16, of kind " + kind, p.rule(kind, 15, 16, 0), kind == 2 ? Tell.BEYOND : number++);
        }
        due.is("b 15 of INSIDE", p.rule(2, 0, 15, 0), number);
    }

    private static void wide() {
        due.sentence("0 WIDE: of each row, and each column, of a: as many SQUARES one behind the other as there are,"
            + " but fewer than n: the first, the last, how many.");
        for (int many = 1; many <= 64; many++) {
            for (int from = 0; from <= 64 - many; from += Math.max(1, 64 - many)) {
                RulePlate p = new RulePlate();
                p.box(0, 0, square(from, 7), size(many, 1), false);
                p.box(0, 1, square(7, from), size(1, many), false);
                p.flat(0);
                due.is(many + " in a row, n as many", found(p, 0, 0, 0, many), many == 1 ? 0 : many);
                due.is(many + " in a column, n as many", found(p, 0, 1, 0, many), many == 1 ? 0 : many);
                if (many > 1 && many < 64) {
                    int before = p.run();
                    p.rule(0, 0, 0, many + 1);
                    p.run();
                    due.is("one more than there are", p.faults(2, 0), many + 1);
                    fault(p, before, 2, square(from, 7), square(from + many - 1, 7), many);
                }
            }
        }
    }

    private static void wideFewer() {
        due.sentence("as many SQUARES one behind the other as there are, but fewer than n");
        RulePlate p = new RulePlate();
        Tell.dot(p, 0, 0, 63, 63);
        p.box(0, 1, 0, size(64, 64), false);
        p.box(0, 2, 0, size(63, 64), false);
        p.flat(0);
        due.is("n 0", found(p, 0, 0, 0, 0), 0);
        due.is("n 1", found(p, 0, 0, 0, 1), 0);
        due.is("n 2", found(p, 0, 0, 0, 2), 2);
        due.is("the whole plate, n 64", found(p, 0, 1, 0, 64), 0);
        due.is("63 wide, n 64", found(p, 0, 2, 0, 64), 64);
        due.is("63 wide, n 63", found(p, 0, 2, 0, 63), 0);
        due.is("an empty layer, n 64", found(p, 0, 3, 0, 64), 0);
    }

    private static void apart() {
        due.sentence("1 APART: of each row, and column: SQUARES that are not a's, one behind the other as many as there are,"
            + " between two of a's, but fewer than n: likewise.");
        for (int many = 1; many <= 62; many++) {
            RulePlate p = new RulePlate();
            Tell.dot(p, 0, 0, 0, 9);
            Tell.dot(p, 0, 0, many + 1, 9);
            Tell.dot(p, 0, 1, 9, 63);
            Tell.dot(p, 0, 1, 9, 62 - many);
            p.flat(0);
            due.is(many + " in a row, n as many", found(p, 1, 0, 0, many), 0);
            due.is(many + " in a column, n as many", found(p, 1, 1, 0, many), 0);
            due.is(many + " in a row, n one more", found(p, 1, 0, 0, many + 1), 1);
            due.is(many + " in a column, n one more", found(p, 1, 1, 0, many + 1), 1);
            fault(p, 0, 2, square(1, 9), square(many, 9), many);
            fault(p, 1, 3, square(9, 63 - many), square(9, 62), many);
        }
    }

    private static void apartFewer() {
        due.sentence("SQUARES that are not a's, one behind the other as many as there are, between two of a's,"
            + " but fewer than n");
        RulePlate p = new RulePlate();
        Tell.dot(p, 0, 0, 31, 31);
        Tell.dot(p, 0, 1, 0, 0);
        Tell.dot(p, 0, 1, 2, 0);
        p.box(0, 2, 0, size(64, 64), false);
        p.box(0, 3, square(1, 1), size(62, 62), false);
        p.flat(0);
        due.is("to the border it is not between two", found(p, 1, 0, 0, 64), 0);
        due.is("n 0", found(p, 1, 1, 0, 0), 0);
        due.is("n 1", found(p, 1, 1, 0, 1), 0);
        due.is("n 2", found(p, 1, 1, 0, 2), 1);
        due.is("the whole plate", found(p, 1, 2, 0, 64), 0);
        due.is("all but the border", found(p, 1, 3, 0, 64), 0);
        due.is("an empty layer", found(p, 1, 4, 0, 64), 0);
        due.is("side by side", found(p, 1, 2, 0, 1), 0);
    }

    /** What ends at the right border does not go on at the left one of the next row. */
    private static void linesEnd() {
        due.sentence("of each row, and each column, of a");
        RulePlate p = new RulePlate();
        p.box(0, 0, square(62, 10), size(2, 1), false);
        p.box(0, 0, square(0, 11), size(2, 1), false);
        p.box(0, 1, square(5, 62), size(1, 2), false);
        p.box(0, 1, square(6, 0), size(1, 2), false);
        Tell.dot(p, 0, 2, 62, 20);
        Tell.dot(p, 0, 2, 1, 21);
        p.flat(0);
        due.is("rows and columns of 2 and 1", found(p, 0, 0, 0, 4), 2 + 4);
        fault(p, 0, 0, square(62, 10), square(63, 10), 2);
        fault(p, 1, 0, square(0, 11), square(1, 11), 2);
        due.is("columns and rows of 2 and 1", found(p, 0, 1, 0, 4), 4 + 2);
        due.is("not between two of one row", found(p, 1, 2, 0, 64), 0);
    }

    private static void inside() {
        due.sentence("2 INSIDE: a SQUARE of a, of which not all that differ by at most n in x, and in y, are b's");
        int[][] ways = {{-1, -1}, {0, -1}, {1, -1}, {-1, 0}, {1, 0}, {-1, 1}, {0, 1}, {1, 1}};
        for (int n = 0; n <= 9; n++) {
            for (int[] by : ways) {
                int x = 20 + n * by[0];
                int y = 45 + n * by[1];
                RulePlate p = new RulePlate();
                Tell.dot(p, 0, 0, 20, 45);
                p.box(0, 1, 0, size(64, 64), false);
                p.box(0, 1, square(x, y), size(1, 1), true);
                p.flat(0);
                String what = n + " by " + by[0] + ", " + by[1];
                due.is("it differs by " + what, found(p, 2, 0, 1, n), 1);
                fault(p, 0, 0, square(20, 45), square(x, y), n);
                if (n > 0) {
                    due.is("n one less than " + what, found(p, 2, 0, 1, n - 1), 0);
                }
            }
        }
    }

    private static void insideLeast() {
        due.sentence("that SQUARE, the least SQUARE that is not b's");
        RulePlate p = new RulePlate();
        Tell.dot(p, 0, 0, 30, 30);
        p.box(0, 1, 0, size(64, 64), false);
        p.box(0, 1, square(29, 31), size(1, 1), true);
        p.box(0, 1, square(31, 30), size(1, 1), true);
        p.box(0, 1, square(32, 28), size(1, 1), true);
        p.box(0, 1, square(33, 28), size(1, 1), true);
        p.rule(2, 0, 1, 1);
        p.rule(2, 0, 1, 2);
        p.rule(2, 0, 2, 0);
        p.rule(2, 0, 2, 9);
        p.rule(2, 2, 0, 9);
        p.flat(0);
        due.is("run", p.run(), 4);
        fault(p, 0, 0, square(30, 30), square(31, 30), 1);
        fault(p, 1, 1, square(30, 30), square(32, 28), 2);
        fault(p, 2, 2, square(30, 30), square(30, 30), 0);
        fault(p, 3, 3, square(30, 30), square(21, 21), 9);
    }

    /** What is not b's is in the first or the last row or column of the plate, or just too far away. */
    private static void insideLeastAtBorders() {
        due.sentence("the least SQUARE that is not b's");
        int[][] lacks = {{20, 0}, {20, 63}, {0, 40}, {63, 40}, {0, 0}, {63, 63}};
        for (int[] lack : lacks) {
            for (int n = 1; n <= 9; n++) {
                RulePlate p = new RulePlate();
                int x = Math.min(63 - n, Math.max(n, lack[0]));
                int y = Math.min(63 - n, Math.max(n, lack[1]));
                Tell.dot(p, 0, 0, x, y);
                p.box(0, 1, 0, size(64, 64), false);
                p.box(0, 1, square(lack[0], lack[1]), size(1, 1), true);
                // in the uppermost row around it, but just too far to the left or to the right
                if (x > n) {
                    p.box(0, 1, square(0, y - n), size(x - n, 1), true);
                }
                if (x + n < 63) {
                    p.box(0, 1, square(x + n + 1, y - n), size(1, 1), true);
                }
                p.flat(0);
                due.is("lacking " + lack[0] + ", " + lack[1] + ", n " + n, found(p, 2, 0, 1, n), 1);
                fault(p, 0, 0, square(x, y), square(lack[0], lack[1]), n);
            }
        }
    }

    private static void insideBorder() {
        due.sentence("(those beyond THE PLATE are none): that SQUARE, the least SQUARE that is not b's"
            + " (or itself, if only some beyond are not), n.");
        int[][] corners = {{0, 0}, {63, 0}, {0, 63}, {63, 63}};
        for (int n = 0; n <= 9; n++) {
            for (int[] corner : corners) {
                RulePlate p = new RulePlate();
                Tell.dot(p, 0, 0, corner[0], corner[1]);
                int inX = corner[0] == 0 ? n : 63 - n;
                int inY = corner[1] == 0 ? n : 63 - n;
                Tell.dot(p, 0, 2, inX, inY);
                p.box(0, 1, 0, size(64, 64), false);
                p.flat(0);
                due.is("at a corner, n " + n, found(p, 2, 0, 1, n), n == 0 ? 0 : 1);
                if (n > 0) {
                    int at = square(corner[0], corner[1]);
                    fault(p, 0, 0, at, at, n);
                    due.is("n squares away from both borders", found(p, 2, 2, 1, n), 0);
                    p.rule(2, 2, 1, Math.min(9, n + 1));
                    due.is("one square too near", p.run(), n == 9 ? 1 : 2);
                }
            }
        }
        RulePlate p = new RulePlate();
        Tell.dot(p, 0, 0, 63, 63);
        p.box(0, 1, 0, size(64, 64), false);
        p.box(0, 1, square(62, 63), size(1, 1), true);
        p.flat(0);
        due.is("some beyond and one on the plate", found(p, 2, 0, 1, 1), 1);
        fault(p, 0, 0, 4095, 4094, 1);
    }

    private static void areaFewer() {
        due.sentence("3 AREA: a PIECE of a of fewer than n SQUARES: its least, its greatest, how many.");
        RulePlate p = new RulePlate();
        Tell.dot(p, 0, 0, 63, 63);
        p.box(0, 1, 0, size(64, 64), false);
        p.box(0, 2, 0, size(64, 64), false);
        p.box(0, 2, 4095, size(1, 1), true);
        p.flat(0);
        due.is("n 0", found(p, 3, 0, 0, 0), 0);
        due.is("n 1", found(p, 3, 0, 0, 1), 0);
        due.is("n 2", found(p, 3, 0, 0, 2), 1);
        due.is("the whole plate, n 4096", found(p, 3, 1, 0, 4096), 0);
        due.is("all but one, n 4096", found(p, 3, 2, 0, 4096), 1);
        due.is("all but one, n 4095", found(p, 3, 2, 0, 4095), 0);
        due.is("an empty layer, n 4096", found(p, 3, 3, 0, 4096), 0);
        fault(p, 0, 2, 4095, 4095, 1);
        fault(p, 1, 4, 0, 4094, 4095);
    }

    private static void areaTold() {
        due.sentence("its least, its greatest, how many");
        RulePlate p = new RulePlate();
        // an L whose foot goes to the left: its greatest square is not below its least
        p.path(0, 0, square(20, 5), square(20, 9), 1);
        p.path(0, 0, square(3, 9), square(20, 9), 1);
        // a 7 whose leg is at its left end
        p.path(0, 0, square(30, 5), square(40, 5), 1);
        p.path(0, 0, square(30, 5), square(30, 8), 1);
        p.flat(0);
        due.is("two pieces", found(p, 3, 0, 0, 4096), 2);
        fault(p, 0, 0, square(20, 5), square(20, 9), 22);
        fault(p, 1, 0, square(30, 5), square(30, 8), 14);
    }

    private static void shareFewer() {
        due.sentence("one in which fewer than n are a's: its first, its last, how many.");
        RulePlate p = new RulePlate();
        p.box(0, 0, 0, size(64, 64), false);
        p.box(0, 1, 0, size(64, 64), false);
        p.box(0, 1, square(16, 16), size(1, 1), true);
        p.box(0, 1, square(63, 63), size(1, 1), true);
        Tell.dot(p, 0, 2, 15, 15);
        p.flat(0);
        due.is("empty, n 0", found(p, 4, 3, 0, 0), 0);
        due.is("empty, n 1", found(p, 4, 3, 0, 1), 16);
        due.is("full, n 256", found(p, 4, 0, 0, 256), 0);
        due.is("full, n 257", found(p, 4, 0, 0, 257), 16);
        due.is("full, n 4096", found(p, 4, 0, 0, 4096), 16);
        due.is("two of 255, n 255", found(p, 4, 1, 0, 255), 0);
        due.is("two of 255, n 256", found(p, 4, 1, 0, 256), 2);
        due.is("one square, n 1", found(p, 4, 2, 0, 1), 15);
        fault(p, 48, 6, square(16, 16), square(31, 31), 255);
        fault(p, 49, 6, square(48, 48), square(63, 63), 255);
        fault(p, 50, 7, square(16, 0), square(31, 15), 0);
    }

    private static void shareFields() {
        due.sentence("4 SHARE: of 16 fields of 16 by 16 SQUARES, from the first on row by row");
        for (int field = 0; field < 16; field++) {
            int x = 16 * (field % 4);
            int y = 16 * (field / 4);
            RulePlate p = new RulePlate();
            p.box(0, 0, square(x, y), size(16, 16), false);
            p.rule(4, 0, 0, 4096);
            p.flat(0);
            due.is("run", p.run(), 16);
            for (int i = 0; i < 16; i++) {
                int first = square(16 * (i % 4), 16 * (i / 4));
                fault(p, i, 0, first, first + 15 * 65, i == field ? 256 : 0);
            }
        }
    }

    private static void ruleByRule() {
        due.sentence("FAULTS are told RULE by RULE");
        RulePlate p = new RulePlate();
        Tell.dot(p, 0, 0, 9, 9);
        Tell.dot(p, 0, 1, 0, 0);
        p.rule(3, 0, 0, 2);
        p.rule(0, 1, 0, 2);
        p.rule(1, 0, 0, 9);
        p.rule(3, 1, 0, 2);
        p.flat(0);
        due.is("run", p.run(), 4);
        fault(p, 0, 0, square(9, 9), square(9, 9), 1);
        fault(p, 1, 1, 0, 0, 1);
        fault(p, 2, 1, 0, 0, 1);
        fault(p, 3, 3, 0, 0, 1);
    }

    private static void rowsFirst() {
        due.sentence("of WIDE and APART rows first, by y, then x; then columns, by x, then y");
        RulePlate p = new RulePlate();
        int[][] dots = {{0, 0}, {4, 0}, {9, 0}, {0, 5}, {0, 9}, {4, 9}};
        for (int[] dot : dots) {
            Tell.dot(p, 0, 0, dot[0], dot[1]);
        }
        p.rule(0, 0, 0, 2);
        p.rule(1, 0, 0, 64);
        p.flat(0);
        due.is("run", p.run(), 12 + 3 + 3);
        int[][] columns = {{0, 0}, {0, 5}, {0, 9}, {4, 0}, {4, 9}, {9, 0}};
        for (int i = 0; i < 6; i++) {
            int row = square(dots[i][0], dots[i][1]);
            int column = square(columns[i][0], columns[i][1]);
            fault(p, i, 0, row, row, 1);
            fault(p, 6 + i, 0, column, column, 1);
        }
        fault(p, 12, 1, square(1, 0), square(3, 0), 3);
        fault(p, 13, 1, square(5, 0), square(8, 0), 4);
        fault(p, 14, 1, square(1, 9), square(3, 9), 3);
        fault(p, 15, 1, square(0, 1), square(0, 4), 4);
        fault(p, 16, 1, square(0, 6), square(0, 8), 3);
        fault(p, 17, 1, square(4, 1), square(4, 8), 8);
    }

    private static void byFirstSquare() {
        due.sentence("else by the first SQUARE");
        RulePlate p = new RulePlate();
        p.path(0, 0, square(20, 3), square(20, 8), 1);
        p.path(0, 0, square(10, 8), square(20, 8), 1);
        Tell.dot(p, 0, 0, 5, 4);
        Tell.dot(p, 0, 0, 50, 3);
        p.rule(3, 0, 0, 99);
        p.rule(2, 0, 1, 0);
        p.flat(0);
        due.is("run", p.run(), 3 + 18);
        due.is("first piece", p.fault(0, 1), square(20, 3));
        due.is("second piece", p.fault(1, 1), square(50, 3));
        due.is("third piece", p.fault(2, 1), square(5, 4));
        for (int i = 4; i < 21; i++) {
            due.is("inside, by squares", p.fault(i - 1, 1) < p.fault(i, 1));
        }
    }

    /** Squares that are inside of nothing, so many of them. */
    private static void sixHundred() {
        due.sentence("600 at most: those behind are not told, but counted.");
        for (int many = 599; many <= 602; many++) {
            RulePlate p = new RulePlate();
            p.box(0, 0, 0, size(64, 9), false);
            p.box(0, 0, square(0, 9), size(many - 576, 1), false);
            p.rule(2, 0, 1, 0);
            p.rule(3, 0, 0, 4096);
            p.flat(0);
            due.is("run", p.run(), many + 1);
            due.is("fault 598", p.fault(598, 1), 598);
            due.is("fault 599", p.fault(599, 1), many == 599 ? 0 : 599);
            due.is("fault 599's rule", p.fault(599, 0), many == 599 ? 1 : 0);
            due.is("fault 600", p.fault(600, 0), Tell.BEYOND);
            due.is("those of the first rule", p.faults(0, 0), many);
            due.is("those of the second rule", p.faults(1, 0), 1);
            due.is("the least of the second rule", p.faults(1, 1), many);
        }
        mostOfAll();
    }

    /** As many faults as sixteen rules can find. */
    private static void mostOfAll() {
        RulePlate p = new RulePlate();
        p.box(0, 0, 0, size(64, 64), false);
        for (int i = 0; i < 16; i++) {
            p.rule(2, 0, 1, 9);
        }
        p.flat(0);
        due.is("all", p.run(), 16 * 4096);
        due.is("of the last", p.faults(15, 0), 4096);
        due.is("its least", p.faults(15, 1), 9);
        due.is("the last that is told", p.fault(599, 1), 599);
        due.is("no more", p.fault(600, 0), Tell.BEYOND);
    }

    private static void runs() {
        due.sentence("All RULES are held against THE DRAWING: how many FAULTS. MISSING.");
        RulePlate p = new RulePlate();
        due.is("no drawing", p.run(), Tell.MISSING);
        p.rule(4, 0, 0, 1);
        due.is("no drawing, a rule", p.run(), Tell.MISSING);
        p.flat(0);
        due.is("a rule", p.run(), 16);
        RulePlate q = new RulePlate();
        q.flat(0);
        due.is("no rules", q.run(), 0);
        due.is("no fault", q.fault(0, 0), Tell.BEYOND);
    }

    private static void runAgain() {
        due.sentence("Of FAULT i (from 0) of the latest run()");
        RulePlate p = new RulePlate();
        Tell.dot(p, 0, 0, 3, 3);
        p.rule(3, 0, 0, 2);
        p.flat(0);
        due.is("run", p.run(), 1);
        due.is("run again", p.run(), 1);
        due.is("they are not added", p.fault(1, 0), Tell.BEYOND);
        due.is("they are not added", p.faults(0, 0), 1);
        p.flat(1);
        due.is("run of an empty drawing", p.run(), 0);
        due.is("the first is gone", p.fault(0, 0), Tell.BEYOND);
        due.is("its measure, too", p.faults(0, 1), Tell.NONE);
    }

    private static void faultAsked() {
        due.sentence("MISSING: there was no run() of THE DRAWING; BEYOND, NO.");
        RulePlate p = new RulePlate();
        due.is("no drawing", p.fault(-1, -1), Tell.MISSING);
        Tell.dot(p, 0, 0, 3, 3);
        p.rule(0, 0, 0, 2);
        p.flat(0);
        due.is("no run", p.fault(0, 0), Tell.MISSING);
        p.run();
        for (int i : new int[] {Integer.MIN_VALUE, -1, 2, 600, Integer.MAX_VALUE}) {
            due.is("fault " + i, p.fault(i, 0), Tell.BEYOND);
            due.is("fault " + i + ", what 4", p.fault(i, 4), Tell.BEYOND);
        }
        for (int what : new int[] {Integer.MIN_VALUE, -1, 4, Integer.MAX_VALUE}) {
            due.is("what = " + what, p.fault(1, what), Tell.NO);
        }
        due.is("what = 3", p.fault(1, 3), 1);
        p.flat(0);
        due.is("no run of this drawing", p.fault(0, 0), Tell.MISSING);
    }

    private static void faultsAsked() {
        due.sentence("Of all FAULTS of a RULE in the latest run(), told or not: how many (what = 0), the least MEASURE"
            + " (1; NONE without; also of a RULE that came behind it). BEYOND (RULE), MISSING, NO.");
        RulePlate p = new RulePlate();
        due.is("no rule, no drawing", p.faults(0, 9), Tell.BEYOND);
        p.rule(0, 0, 0, 2);
        due.is("no drawing", p.faults(0, 9), Tell.MISSING);
        due.is("no such rule, no drawing", p.faults(1, 0), Tell.BEYOND);
        p.flat(0);
        due.is("no run", p.faults(0, 9), Tell.MISSING);
        p.run();
        for (int what : new int[] {Integer.MIN_VALUE, -1, 2, Integer.MAX_VALUE}) {
            due.is("what = " + what, p.faults(0, what), Tell.NO);
        }
        for (int rule : new int[] {Integer.MIN_VALUE, -1, 1, 16, Integer.MAX_VALUE}) {
            due.is("rule " + rule, p.faults(rule, 0), Tell.BEYOND);
        }
        due.is("without: how many", p.faults(0, 0), 0);
        due.is("without: the least", p.faults(0, 1), Tell.NONE);
    }

    /** The least is the first, one between, the last, or is not told any more. */
    private static void leastMeasure() {
        due.sentence("the least MEASURE (1; NONE without");
        int[][] heights = {{1, 2, 3}, {3, 1, 2}, {3, 2, 1}, {2, 2, 2}};
        for (int[] high : heights) {
            RulePlate p = new RulePlate();
            for (int i = 0; i < 3; i++) {
                p.box(0, 0, square(10 * i, 0), size(1, high[i]), false);
            }
            p.rule(3, 0, 0, 9);
            p.flat(0);
            p.run();
            due.is("the least", p.faults(0, 1), Math.min(high[0], Math.min(high[1], high[2])));
        }
        RulePlate p = new RulePlate();
        p.rule(4, 0, 0, 1);
        p.flat(0);
        p.run();
        due.is("a measure of 0", p.faults(0, 1), 0);
        RulePlate q = new RulePlate();
        q.box(0, 0, 0, size(64, 10), false);
        q.box(0, 1, 0, size(5, 1), false);
        Tell.dot(q, 0, 1, 9, 9);
        q.rule(2, 0, 2, 0);
        q.rule(3, 1, 0, 9);
        q.flat(0);
        due.is("run", q.run(), 642);
        due.is("the least of those that are not told", q.faults(1, 1), 1);
    }

    private static void cameBehind() {
        due.sentence("(1; NONE without; also of a RULE that came behind it)");
        RulePlate p = new RulePlate();
        Tell.dot(p, 0, 0, 3, 3);
        p.flat(0);
        p.run();
        p.rule(3, 0, 0, 2);
        due.is("how many", p.faults(0, 0), 0);
        due.is("the least", p.faults(0, 1), Tell.NONE);
        p.run();
        due.is("how many now", p.faults(0, 0), 1);
        p.rule(3, 0, 0, 2);
        due.is("the next one", p.faults(1, 1), Tell.NONE);
        due.is("the first one stays", p.faults(0, 1), 1);
    }
}
