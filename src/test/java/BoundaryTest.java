import java.util.function.Predicate;
import java.util.function.Supplier;

/**
 * One method for each sentence of the document that names a boundary case. Each begins with the
 * sentence in the document's own words, and an answer that is not due is printed under them.
 */
public final class BoundaryTest {
    private static final int SUM = BlockSheet.SUM;
    private static final int MOST = BlockSheet.MOST;
    private static final int LEAST = BlockSheet.LEAST;
    private static final int UP = BlockSheet.UP;
    private static final int MIN = Integer.MIN_VALUE;
    private static final int MAX = Integer.MAX_VALUE;
    private static final int ALL = 0xFFFF;

    // Beside the nearest and the farthest: numbers that a shift, a mask or a cast would turn into a cell.
    private static final int[] NOT_CELLS = {-1, 16, -16, 17, 31, 32, 37, 256, 65536, MIN, MIN + 5, MAX};
    private static final int[] NOT_OPERATIONS = {-1, 4, 5, 8, 256, MIN, MAX};
    private static final int[] ANY_INTS = {0, 1, -1, MAX, MAX - 1, MIN, MIN + 1, 65536, -32769};

    private static String sentence = "";
    private static int sentences = 0;
    private static int wrong = 0;

    private static void sentence(String where, String words) {
        sentence = where + ": \"" + words + "\"";
        sentences++;
    }

    private static void due(String call, long got, long want) {
        if (got != want) {
            wrong++;
            System.out.println(sentence);
            System.out.println("    " + call + " answered " + got + ", due is " + want);
        }
    }

    private static void due(String call, boolean got, boolean want) {
        due(call, got ? 1L : 0L, want ? 1L : 0L);
    }

    private static int bits(int... cells) {
        int set = 0;
        for (int cell : cells) {
            set |= 1 << cell;
        }
        return set;
    }

    // ---- Refused calls: what "changing nothing" means is that no later answer differs.

    /** Constants, sound and broken formulas, a full row of changes, and a touched() that is not 0. */
    private static BlockSheet busy() {
        BlockSheet x = new BlockSheet();
        x.put(0, 5);
        x.put(1, -3);
        x.formula(6, MOST, 0, 1);
        x.offset(6, 4);
        x.formula(10, SUM, 6, 10);
        x.offset(10, 9);
        x.formula(15, UP, 0, 5);
        x.formula(3, LEAST, 10, 10);
        x.put(5, 1);
        x.formula(5, SUM, 0, 0);
        x.put(0, 7);
        return x;
    }

    private static void sameAnswers(String call, BlockSheet x, BlockSheet y) {
        // First of all, so that no other question can blur it on both sheets alike.
        due(call + ", then touched()", x.touched(), y.touched());
        for (int cell = 0; cell < 16; cell++) {
            due(call + ", then value(" + cell + ")", x.value(cell), y.value(cell));
            due(call + ", then readers(" + cell + ")", x.readers(cell), y.readers(cell));
        }
        due(call + ", then brokenCells()", x.brokenCells(), y.brokenCells());
    }

    private static void sameFromHereOn(String call, BlockSheet x, BlockSheet y) {
        sameAnswers(call, x, y);
        for (int back = 1; back <= 9; back++) {
            String later = call + ", then undo() number " + back;
            due(later, x.undo(), y.undo());
            sameAnswers(later, x, y);
        }
    }

    private static void refused(String call, Predicate<BlockSheet> act) {
        refusedAt(call, act, BlockSheet::new);
        refusedAt(call, act, BoundaryTest::busy);
    }

    private static void refusedAt(String call, Predicate<BlockSheet> act, Supplier<BlockSheet> start) {
        BlockSheet x = start.get();
        due(call, act.test(x), false);
        sameFromHereOn(call, x, start.get());
    }

    // ---- What it is

    private static void theLastCall() {
        sentence("What it is", "An object is used for at most 512 calls after it has been made");
        BlockSheet x = new BlockSheet();
        for (int call = 1; call <= 511; call++) {
            due("put, call " + call, x.put(call % 16, call), true);
        }
        due("undo(), call 512", x.undo(), 511 % 16);
        BlockSheet y = new BlockSheet();
        for (int call = 1; call <= 511; call++) {
            y.put(call % 16, call);
        }
        due("total(0, 15), call 512", y.total(0, 15), (496 + 511) * 8);
    }

    // ---- Terms

    private static void rowsEnd() {
        sentence("Terms", "Cell 4 * r + c stands in row r and column c (0 .. 3 each).");
        BlockSheet x = new BlockSheet();
        for (int cell = 0; cell < 16; cell++) {
            x.put(cell, 1 << cell);
        }
        due("total(3, 4), the end of a row and the next one's beginning", x.total(3, 4), 0x00FF);
        due("total(7, 8)", x.total(7, 8), 0x0FF0);
        due("total(0, 3), the first row", x.total(0, 3), 0x000F);
        due("total(12, 15), the last row", x.total(12, 15), 0xF000);
        due("total(0, 12), the first column", x.total(0, 12), 0x1111);
        due("total(3, 15), the last column", x.total(3, 15), 0x8888);
    }

    private static boolean between(int x, int end, int otherEnd) {
        return Math.min(end, otherEnd) <= x && x <= Math.max(end, otherEnd);
    }

    private static int rectangle(int a, int b) {
        int set = 0;
        for (int r = 0; r < 4; r++) {
            for (int c = 0; c < 4; c++) {
                if (between(r, a / 4, b / 4) && between(c, a % 4, b % 4)) {
                    set |= 1 << 4 * r + c;
                }
            }
        }
        return set;
    }

    private static int readBy(BlockSheet x, int reader) {
        int set = 0;
        for (int cell = 0; cell < 16; cell++) {
            set |= (x.readers(cell) >> reader & 1) << cell;
        }
        return set;
    }

    private static void rectanglesHaveTheirEnds() {
        sentence("Terms", "all cells whose rows lie between their two rows and whose columns lie between "
            + "their two columns, ends included");
        BlockSheet x = new BlockSheet();
        x.formula(9, SUM, 6, 6);
        due("the cells of the rectangle of 6 and 6", readBy(x, 9), bits(6));
        x.formula(9, SUM, 0, 15);
        due("the cells of the rectangle of 0 and 15", readBy(x, 9), ALL);
        int inner = bits(5, 6, 7, 9, 10, 11);
        int[][] corners = {{5, 11}, {11, 5}, {7, 9}, {9, 7}};
        for (int[] pair : corners) {
            x.formula(9, SUM, pair[0], pair[1]);
            due("the cells of the rectangle of " + pair[0] + " and " + pair[1], readBy(x, 9), inner);
        }
        for (int a = 0; a < 16; a++) {
            BlockSheet y = new BlockSheet();
            for (int b = 0; b < 16; b++) {
                y.formula(a, SUM, a, b);
                due("the cells of the rectangle of " + a + " and " + b, readBy(y, a), rectangle(a, b));
            }
        }
    }

    private static void ownCellIsRead() {
        sentence("Terms", "A formula READS every cell of its rectangle, its own cell too if it lies in it.");
        int[][] within = {{5, 5, 5}, {5, 5, 10}, {10, 5, 10}, {6, 5, 10}, {9, 5, 10}, {5, 0, 15}, {0, 0, 15}, {15, 15, 0}};
        for (int[] f : within) {
            BlockSheet x = new BlockSheet();
            x.formula(f[0], MOST, f[1], f[2]);
            String call = "formula(" + f[0] + ", MOST, " + f[1] + ", " + f[2] + ")";
            due(call + ", then readers of its own cell", x.readers(f[0]), bits(f[0]));
            due(call + ", then broken", x.broken(f[0]), true);
        }
        int[][] beside = {{4, 5, 10}, {7, 5, 10}, {1, 5, 10}, {13, 5, 10}, {0, 5, 10}, {15, 5, 10}, {0, 15, 4}, {3, 4, 4}};
        for (int[] f : beside) {
            BlockSheet x = new BlockSheet();
            x.formula(f[0], MOST, f[1], f[2]);
            String call = "formula(" + f[0] + ", MOST, " + f[1] + ", " + f[2] + ")";
            due(call + ", then readers of its own cell", x.readers(f[0]), 0);
            due(call + ", then broken", x.broken(f[0]), false);
        }
    }

    /** Each cell reads the one at the given step before it; the first holds the constant 100. */
    private static BlockSheet chainOfSixteen(int first, int step) {
        BlockSheet x = new BlockSheet();
        x.put(first, 100);
        for (int i = 1; i < 16; i++) {
            x.formula(first + i * step, SUM, first + (i - 1) * step, first + (i - 1) * step);
            x.offset(first + i * step, 1);
        }
        return x;
    }

    private static void ringsShortAndLong() {
        sentence("Terms", "there is a chain of cells, beginning with it, of which each holds a formula that reads "
            + "the next one, that comes to a cell a second time");
        BlockSheet one = new BlockSheet();
        one.formula(7, SUM, 7, 7);
        due("brokenCells() of a ring of one", one.brokenCells(), bits(7));
        BlockSheet two = new BlockSheet();
        two.formula(0, SUM, 15, 15);
        due("brokenCells() before the ring of two is closed", two.brokenCells(), 0);
        two.formula(15, SUM, 0, 0);
        due("brokenCells() of a ring of two", two.brokenCells(), bits(0, 15));
        BlockSheet up = chainOfSixteen(0, 1);
        due("brokenCells() of the longest chain", up.brokenCells(), 0);
        due("value(15) of the longest chain", up.value(15), 115);
        up.formula(0, SUM, 15, 15);
        due("brokenCells() of a ring of sixteen", up.brokenCells(), ALL);
        BlockSheet down = chainOfSixteen(15, -1);
        due("brokenCells() of the longest chain downwards", down.brokenCells(), 0);
        due("value(0) of the longest chain downwards", down.value(0), 115);
        down.formula(15, SUM, 0, 0);
        due("brokenCells() of a ring of sixteen downwards", down.brokenCells(), ALL);
    }

    private static void twoWaysAreNoRing() {
        sentence("Terms", "that comes to a cell a second time");
        BlockSheet x = new BlockSheet();
        x.put(15, 3);
        x.formula(11, SUM, 15, 15);
        x.formula(14, SUM, 15, 15);
        x.formula(10, SUM, 11, 15);
        x.formula(5, SUM, 10, 15);
        due("brokenCells() where several ways lead to one cell", x.brokenCells(), 0);
        due("value(5)", x.value(5), 3 + 3 + 3 + 6);
    }

    private static void constantsAreNeverBroken() {
        sentence("Terms", "A cell is BROKEN when it holds a formula");
        BlockSheet x = new BlockSheet();
        x.formula(0, SUM, 0, 15);
        due("brokenCells() with constants in the rectangle of a ring", x.brokenCells(), bits(0));
        x.put(0, 0);
        due("brokenCells() after the constant 0 took its place", x.brokenCells(), 0);
        BlockSheet y = chainOfSixteen(0, 1);
        y.formula(0, SUM, 15, 15);
        y.put(8, 1);
        due("brokenCells() after a constant opened a ring of sixteen", y.brokenCells(), 0);
        // Fourteen steps from cell 8 to cell 7 have the offset 1; the one that closed the ring has none.
        due("value(7) all the way round", y.value(7), 15);
    }

    private static void readersOfBrokenCells() {
        sentence("Terms", "so every cell on such a ring is broken, and every formula that reads a broken cell");
        for (int operation = 0; operation < 4; operation++) {
            BlockSheet x = chainOfSixteen(0, 1);
            x.formula(0, operation, 0, 0);
            due("brokenCells() of the longest chain to a ring of one", x.brokenCells(), ALL);
            BlockSheet y = new BlockSheet();
            y.put(8, 1);
            y.formula(4, SUM, 4, 4);
            y.formula(0, operation, 4, 15);
            due("operation " + operation + " over one broken cell among twelve", y.broken(0), true);
        }
        BlockSheet z = new BlockSheet();
        z.formula(0, SUM, 1, 1);
        z.formula(1, SUM, 0, 0);
        z.formula(1, SUM, 0, 4);
        z.formula(4, SUM, 5, 5);
        due("brokenCells() without the cell that a ring reads", z.brokenCells(), bits(0, 1));
    }

    private static BlockSheet row(int... constants) {
        BlockSheet x = new BlockSheet();
        for (int i = 0; i < constants.length; i++) {
            x.put(4 + i, constants[i]);
        }
        return x;
    }

    private static int made(int operation, int... constants) {
        BlockSheet x = row(constants);
        x.formula(0, operation, 4, 3 + constants.length);
        return x.value(0);
    }

    private static void greatestAtTheEnds() {
        sentence("Terms", "the greatest of them");
        due("MOST of negatives", made(MOST, -7, -2, -9), -2);
        due("MOST of least ints", made(MOST, MIN, MIN, MIN, MIN), MIN);
        due("MOST of the ends", made(MOST, MIN, MAX), MAX);
        due("MOST of the ends the other way", made(MOST, MAX, MIN), MAX);
        due("MOST of one", made(MOST, -5), -5);
        due("MOST of two whose difference wraps", made(MOST, -2, MAX), MAX);
    }

    private static void leastAtTheEnds() {
        sentence("Terms", "the least of them");
        due("LEAST of positives", made(LEAST, 7, 2, 9), 2);
        due("LEAST of greatest ints", made(LEAST, MAX, MAX, MAX, MAX), MAX);
        due("LEAST of the ends", made(LEAST, MIN, MAX), MIN);
        due("LEAST of the ends the other way", made(LEAST, MAX, MIN), MIN);
        due("LEAST of one", made(LEAST, 5), 5);
        due("LEAST of two whose difference wraps", made(LEAST, 2, MIN), MIN);
    }

    private static void aboveZero() {
        sentence("Terms", "how many of them are above 0");
        due("UP of 0", made(UP, 0), 0);
        due("UP of 1", made(UP, 1), 1);
        due("UP of -1", made(UP, -1), 0);
        due("UP of the greatest int", made(UP, MAX), 1);
        due("UP of the least int", made(UP, MIN), 0);
        due("UP of -1, 0, 1, 2", made(UP, -1, 0, 1, 2), 2);
        BlockSheet x = new BlockSheet();
        for (int cell = 4; cell < 16; cell++) {
            x.put(cell, 1);
        }
        x.formula(0, UP, 4, 15);
        due("UP of twelve ones", x.value(0), 12);
    }

    private static void sumsWrap() {
        sentence("Terms", "All sums wrap as ints do.");
        due("SUM of the greatest int and 1", made(SUM, MAX, 1), MIN);
        due("SUM of the least int and -1", made(SUM, MIN, -1), MAX);
        due("SUM of two least ints", made(SUM, MIN, MIN), 0);
        due("SUM of four greatest ints", made(SUM, MAX, MAX, MAX, MAX), -4);
        due("SUM that wraps there and back", made(SUM, MAX, 1, -1), MAX);
        int[] ofMax = {MIN, MIN, MIN, 2};
        int[] ofMin = {MAX, MAX, MAX, -1};
        for (int operation = 0; operation < 4; operation++) {
            BlockSheet x = row(MAX);
            x.formula(0, operation, 4, 4);
            x.offset(0, 1);
            due("operation " + operation + " of the greatest int, offset 1", x.value(0), ofMax[operation]);
            x.put(4, MIN);
            x.offset(0, -1);
            due("operation " + operation + " of the least int, offset -1", x.value(0), ofMin[operation]);
        }
        BlockSheet y = row(1);
        y.formula(0, UP, 4, 4);
        y.offset(0, MAX);
        due("UP of 1, offset the greatest int", y.value(0), MIN);
        y.formula(1, UP, 0, 0);
        due("UP of a value that wrapped below 0", y.value(1), 0);
    }

    private static void brokenCountsZero() {
        sentence("Terms", "The value of a broken cell is taken as 0 wherever a number is asked for.");
        BlockSheet x = new BlockSheet();
        x.put(0, 50);
        x.put(1, 8);
        x.formula(0, SUM, 0, 0);
        x.offset(0, 9);
        due("value(0) of a cell that was 50", x.value(0), 0);
        due("total(0, 1)", x.total(0, 1), 8);
        x.formula(1, SUM, 0, 0);
        x.offset(1, MAX);
        due("value(1) of a broken cell off the ring, with an offset", x.value(1), 0);
        due("total(0, 1) of broken cells", x.total(0, 1), 0);
        due("total(0, 15)", x.total(0, 15), 0);
    }

    // ---- Promise 1

    private static void everyCellHoldsZero() {
        sentence("Promise 1", "Every cell holds the constant 0");
        for (int cell = 0; cell < 16; cell++) {
            BlockSheet x = new BlockSheet();
            due("value(" + cell + ")", x.value(cell), 0);
            due("broken(" + cell + ")", x.broken(cell), false);
            due("most(" + cell + ", " + cell + ")", x.most(cell, cell), 0);
            due("readers(" + cell + ")", x.readers(cell), 0);
            due("offset(" + cell + ", 1)", x.offset(cell, 1), false);
            due("value(" + cell + ") after the refused offset", x.value(cell), 0);
        }
        due("brokenCells()", new BlockSheet().brokenCells(), 0);
    }

    private static void nothingToUndoAtFirst() {
        sentence("Promise 1", "nothing can be undone");
        BlockSheet x = new BlockSheet();
        due("undo()", x.undo(), -1);
        due("undo() again", x.undo(), -1);
        x.put(4, 1);
        due("undo() of another object", new BlockSheet().undo(), -1);
    }

    // ---- Promise 2

    private static void putTakesAnyInt() {
        sentence("Promise 2", "Puts a constant (any int) into a cell, in place of what it held; answers true.");
        for (int v : ANY_INTS) {
            for (int cell : new int[] {0, 3, 12, 15}) {
                BlockSheet x = new BlockSheet();
                due("put(" + cell + ", " + v + ")", x.put(cell, v), true);
                due("value(" + cell + ")", x.value(cell), v);
                x.formula(cell, SUM, cell, cell);
                x.offset(cell, 6);
                due("put(" + cell + ", " + v + ") over a ring", x.put(cell, v), true);
                due("value(" + cell + ")", x.value(cell), v);
                due("readers(" + cell + ")", x.readers(cell), 0);
            }
        }
    }

    private static void putRefusesWhatIsNoCell() {
        sentence("Promise 2", "False, changing nothing, when cell is not 0 .. 15.");
        for (int cell : NOT_CELLS) {
            refused("put(" + cell + ", 99)", x -> x.put(cell, 99));
        }
        for (int cell = 0; cell < 16; cell++) {
            due("put(" + cell + ", 99)", new BlockSheet().put(cell, 99), true);
        }
    }

    // ---- Promise 3

    private static void formulaHasOffsetZero() {
        sentence("Promise 3", "Puts a formula with offset 0 into a cell, in place of what it held");
        BlockSheet x = row(3);
        x.put(0, 1000);
        x.formula(0, SUM, 4, 4);
        due("value(0), a formula over a constant", x.value(0), 3);
        x.offset(0, 500);
        x.formula(0, SUM, 4, 4);
        due("value(0), a formula over one with an offset", x.value(0), 3);
        x.formula(0, SUM, 0, 0);
        x.offset(0, 500);
        x.formula(0, LEAST, 4, 4);
        due("value(0), a formula over a broken one with an offset", x.value(0), 3);
        x.undo();
        x.undo();
        x.undo();
        x.undo();
        due("value(0), the offset is there again", x.value(0), 503);
        x.formula(0, MOST, 4, 4);
        due("value(0), a formula over one that came back", x.value(0), 3);
    }

    private static void formulaTakesTheEnds() {
        sentence("Promise 3", "the operation over the rectangle of the cells a and b. Answers true");
        for (int operation = 0; operation < 4; operation++) {
            for (int end : new int[] {0, 15}) {
                BlockSheet x = new BlockSheet();
                x.put(end, 4);
                int cell = 15 - end;
                String call = "formula(" + cell + ", " + operation + ", " + end + ", " + end + ")";
                due(call, x.formula(cell, operation, end, end), true);
                due(call + ", then value", x.value(cell), operation == UP ? 1 : 4);
            }
        }
    }

    private static void formulaRefusesWhatIsNoCell() {
        sentence("Promise 3", "false, changing nothing, when cell, a or b is not 0 .. 15");
        for (int no : NOT_CELLS) {
            refused("formula(" + no + ", SUM, 0, 1)", x -> x.formula(no, SUM, 0, 1));
            refused("formula(0, SUM, " + no + ", 1)", x -> x.formula(0, SUM, no, 1));
            refused("formula(0, SUM, 1, " + no + ")", x -> x.formula(0, SUM, 1, no));
            refused("formula(0, SUM, " + no + ", " + no + ")", x -> x.formula(0, SUM, no, no));
            refused("formula(" + no + ", SUM, " + no + ", " + no + ")", x -> x.formula(no, SUM, no, no));
        }
    }

    private static void formulaRefusesWhatIsNoOperation() {
        sentence("Promise 3", "or operation is not 0 .. 3");
        for (int no : NOT_OPERATIONS) {
            refused("formula(0, " + no + ", 1, 2)", x -> x.formula(0, no, 1, 2));
            refused("formula(6, " + no + ", 1, 2)", x -> x.formula(6, no, 1, 2));
        }
    }

    // ---- Promise 4

    private static void offsetTakesAnyInt() {
        sentence("Promise 4", "Gives the formula in a cell another offset (any int) and answers true");
        for (int cell : new int[] {0, 15}) {
            BlockSheet x = new BlockSheet();
            x.put(5, 10);
            x.formula(cell, SUM, 5, 5);
            for (int v : ANY_INTS) {
                due("offset(" + cell + ", " + v + ")", x.offset(cell, v), true);
                due("value(" + cell + "), the offset before it counts no more", x.value(cell), 10 + v);
            }
            due("readers(5)", x.readers(5), bits(cell));
        }
        BlockSheet y = new BlockSheet();
        y.formula(0, SUM, 0, 1);
        due("offset(0, 7) of a broken cell", y.offset(0, 7), true);
        y.formula(2, SUM, 3, 3);
        y.formula(3, SUM, 2, 2);
        due("offset(2, 7) of a cell on a ring", y.offset(2, 7), true);
        y.put(3, 1);
        due("value(2) after the ring was opened", y.value(2), 8);
    }

    private static void offsetRefusesWhatIsNoCell() {
        sentence("Promise 4", "false, changing nothing, when cell is not 0 .. 15");
        for (int no : NOT_CELLS) {
            refused("offset(" + no + ", 1)", x -> x.offset(no, 1));
        }
    }

    private static void offsetRefusesConstants() {
        sentence("Promise 4", "or holds a constant");
        refused("offset(0, 1)", x -> x.offset(0, 1));
        refused("offset(1, 0)", x -> x.offset(1, 0));
        refused("offset(2, " + MIN + ")", x -> x.offset(2, MIN));
        BlockSheet x = new BlockSheet();
        x.formula(9, SUM, 1, 1);
        x.put(9, 4);
        due("offset(9, 1) after a put over the formula", x.offset(9, 1), false);
        due("value(9)", x.value(9), 4);
        x.undo();
        due("offset(9, 1) after the formula came back", x.offset(9, 1), true);
        x.undo();
        x.undo();
        due("offset(9, 1) after the formula was taken back", x.offset(9, 1), false);
        due("value(9)", x.value(9), 0);
    }

    // ---- Promise 5

    private static void heldBefore() {
        sentence("Promise 5", "the cell it was made to holds again what it held before");
        BlockSheet x = row(2, 5);
        x.put(0, MIN);
        x.formula(0, LEAST, 5, 4);
        x.offset(0, MAX);
        x.formula(0, SUM, 0, 15);
        x.put(0, 0);
        int[] wantValue = {0, MAX + 2, 2, MIN, 0};
        int[] wantBroken = {1, 0, 0, 0, 0};
        for (int back = 0; back < 5; back++) {
            due("undo()", x.undo(), 0);
            due("value(0)", x.value(0), wantValue[back]);
            due("brokenCells()", x.brokenCells(), wantBroken[back]);
        }
    }

    private static void changesWithoutDifference() {
        sentence("Promise 5", "Every put, formula or offset that answered true is a change "
            + "(also when it made no difference)");
        BlockSheet x = new BlockSheet();
        x.put(5, 0);
        due("undo() of a put of what was there", x.undo(), 5);
        due("undo()", x.undo(), -1);
        x.formula(6, SUM, 1, 1);
        x.formula(6, SUM, 1, 1);
        x.offset(6, 0);
        due("undo() of an offset that was there", x.undo(), 6);
        due("readers(1)", x.readers(1), bits(6));
        due("undo() of a formula that was there", x.undo(), 6);
        due("readers(1)", x.readers(1), bits(6));
        due("undo() of the formula", x.undo(), 6);
        due("readers(1)", x.readers(1), 0);
        due("undo()", x.undo(), -1);
        x.formula(7, SUM, 7, 7);
        x.offset(7, 1);
        due("undo() of an offset of a broken cell", x.undo(), 7);
        due("brokenCells()", x.brokenCells(), bits(7));
        x.undo();
        x.put(0, 1);
        for (int i = 0; i < 8; i++) {
            x.put(1, 0);
        }
        for (int i = 0; i < 8; i++) {
            due("undo() of a put without difference", x.undo(), 1);
        }
        due("undo(), the ones without difference having pushed the first out", x.undo(), -1);
        due("value(0)", x.value(0), 1);
    }

    private static BlockSheet puts(int count) {
        BlockSheet x = new BlockSheet();
        for (int i = 1; i <= count; i++) {
            x.put(i % 16, i);
        }
        return x;
    }

    private static void lastEight() {
        sentence("Promise 5", "the last eight of them are remembered");
        for (int count : new int[] {0, 1, 7, 8, 9, 10, 15, 16, 17, 24, 25, 100}) {
            BlockSheet x = puts(count);
            int kept = Math.min(count, 8);
            for (int back = 0; back < kept; back++) {
                due("undo() number " + (back + 1) + " after " + count, x.undo(), (count - back) % 16);
            }
            due("undo() number " + (kept + 1) + " after " + count, x.undo(), -1);
            sameAnswers("all undone after " + count, withoutTouched(x), withoutTouched(puts(count - kept)));
        }
    }

    /** A last change without difference, since how two sheets came to be tells in touched() alone. */
    private static BlockSheet withoutTouched(BlockSheet x) {
        x.put(0, x.value(0));
        return x;
    }

    private static void takingBackForgets() {
        sentence("Promise 5", "taking one back forgets it");
        BlockSheet x = new BlockSheet();
        x.put(1, 1);
        x.put(2, 2);
        due("undo()", x.undo(), 2);
        due("undo(), not the same again", x.undo(), 1);
        due("undo(), no undo of an undo", x.undo(), -1);
        due("total(0, 15)", x.total(0, 15), 0);
        for (int round = 0; round < 20; round++) {
            x.put(round % 16, 5);
            due("undo() right after a put", x.undo(), round % 16);
        }
        due("undo()", x.undo(), -1);
        due("total(0, 15)", x.total(0, 15), 0);
    }

    /** Changes were forgotten and all others are taken back, so formulas and constants are left. */
    private static BlockSheet emptied() {
        BlockSheet x = busy();
        for (int i = 0; i < 8; i++) {
            x.undo();
        }
        return x;
    }

    private static void undoOfNothing() {
        sentence("Promise 5", "-1, changing nothing, when none is remembered");
        refusedAt("undo() of nothing", x -> x.undo() != -1, BlockSheet::new);
        refusedAt("undo() of nothing", x -> x.undo() != -1, BoundaryTest::emptied);
        BlockSheet x = puts(9);
        BlockSheet y = puts(9);
        for (int i = 0; i < 8; i++) {
            x.undo();
            y.undo();
        }
        for (int i = 0; i < 10; i++) {
            due("undo() of nothing", x.undo(), -1);
        }
        sameAnswers("ten times undo() of nothing", x, y);
        due("put(3, 4) after them", x.put(3, 4), true);
        due("undo() of it", x.undo(), 3);
        due("undo() of nothing", x.undo(), -1);
    }

    // ---- Promise 6

    private static void valueWhenBroken() {
        sentence("Promise 6", "The value of a cell, 0 when it is broken");
        for (int operation = 0; operation < 4; operation++) {
            BlockSheet x = new BlockSheet();
            x.put(5, 31);
            x.put(6, 32);
            x.formula(5, operation, 5, 6);
            x.offset(5, MIN);
            x.formula(0, operation, 5, 6);
            x.offset(0, 3);
            due("value(5), operation " + operation + " on a ring", x.value(5), 0);
            due("value(0), operation " + operation + " beside a ring", x.value(0), 0);
            due("value(6), a constant that a ring reads", x.value(6), 32);
        }
    }

    private static void valueOfWhatIsNoCell() {
        sentence("Promise 6", "0 when cell is not 0 .. 15");
        BlockSheet x = full();
        for (int no : NOT_CELLS) {
            due("value(" + no + ")", x.value(no), 0);
        }
        for (int cell = 0; cell < 16; cell++) {
            due("value(" + cell + ")", x.value(cell), cell + 1);
        }
    }

    /** No cell holds 0, so that a wrong number taken for a cell is seen. */
    private static BlockSheet full() {
        BlockSheet x = new BlockSheet();
        for (int cell = 0; cell < 16; cell++) {
            x.put(cell, cell + 1);
        }
        return x;
    }

    /** Every cell reads the whole sheet: all are broken, and each reads each. */
    private static BlockSheet allBroken() {
        BlockSheet x = new BlockSheet();
        for (int cell = 0; cell < 16; cell++) {
            x.formula(cell, SUM, 0, 15);
        }
        return x;
    }

    // ---- Promises 7 and 8

    private static void brokenOfWhatIsNoCell() {
        sentence("Promise 7", "Whether a cell is broken; false when cell is not 0 .. 15.");
        BlockSheet x = allBroken();
        for (int no : NOT_CELLS) {
            due("broken(" + no + ")", x.broken(no), false);
        }
        for (int cell = 0; cell < 16; cell++) {
            due("broken(" + cell + ")", x.broken(cell), true);
            due("broken(" + cell + ") of a new object", new BlockSheet().broken(cell), false);
        }
    }

    private static void brokenCellsNoneToAll() {
        sentence("Promise 8", "The broken cells: bit i for cell i.");
        BlockSheet x = new BlockSheet();
        int want = 0;
        due("brokenCells() with none", x.brokenCells(), 0);
        for (int cell = 0; cell < 16; cell++) {
            x.formula(cell, SUM, cell, cell);
            want |= 1 << cell;
            due("brokenCells() with " + (cell + 1), x.brokenCells(), want);
        }
        for (int cell = 15; cell >= 0; cell--) {
            x.put(cell, -1);
            want &= ~(1 << cell);
            due("brokenCells() with " + cell, x.brokenCells(), want);
        }
    }

    // ---- Promise 9

    private static void touchedByTheLastChangeAlone() {
        sentence("Promise 9", "The cells that the last change, or undo() that took one back, made differ in value "
            + "or in being broken, as seen right before and right after it: bit i for cell i.");
        BlockSheet x = chainOfSixteen(0, 1);
        x.put(0, 0);
        due("touched() when all differ", x.touched(), ALL);
        x.undo();
        due("touched() of undo when all differ", x.touched(), ALL);
        x.formula(0, SUM, 0, 0);
        due("touched() when all break", x.touched(), ALL);
        x.undo();
        due("touched() of undo when none is broken any more", x.touched(), ALL);
        x.put(15, 0);
        due("touched() by the last change alone", x.touched(), bits(15));
        x.put(15, 0);
        due("touched() when none differs", x.touched(), 0);
        x.undo();
        due("touched() of undo when none differs", x.touched(), 0);
        eachUndoTouchesItsOwn();
        onlyBeingBrokenDiffers();
        twiceHalfTheRangeIsNoDifference();
    }

    private static void eachUndoTouchesItsOwn() {
        BlockSheet x = new BlockSheet();
        x.put(1, 1);
        x.formula(15, SUM, 0, 1);
        x.put(0, 4);
        int[] want = {bits(0, 15), bits(15), bits(1)};
        for (int set : want) {
            x.undo();
            due("touched() of one undo after the other", x.touched(), set);
        }
    }

    private static void onlyBeingBrokenDiffers() {
        BlockSheet x = new BlockSheet();
        x.formula(3, SUM, 3, 3);
        due("touched() from 0 to broken", x.touched(), bits(3));
        x.undo();
        due("touched() of undo from broken to 0", x.touched(), bits(3));
        x.formula(3, SUM, 3, 3);
        x.formula(3, SUM, 4, 4);
        due("touched() from broken to a formula that is 0", x.touched(), bits(3));
    }

    private static void twiceHalfTheRangeIsNoDifference() {
        BlockSheet x = new BlockSheet();
        x.put(0, 3);
        x.formula(4, SUM, 0, 0);
        x.formula(5, SUM, 0, 4);
        x.put(0, 3 + MIN);
        due("value(5), the same after wrapping", x.value(5), 6);
        due("touched() leaves out what wrapped to the same", x.touched(), bits(0, 4));
        x.put(0, MIN);
        x.put(0, MAX);
        due("touched() from the least to the greatest int", x.touched(), bits(0, 4, 5));
    }

    private static void brokenBeforeAndAfter() {
        sentence("Promise 9", "A cell that is broken both before and after does not differ.");
        BlockSheet x = new BlockSheet();
        x.put(8, 4);
        x.formula(0, SUM, 0, 8);
        x.formula(1, SUM, 0, 0);
        x.offset(0, 9);
        due("touched() of an offset on a ring", x.touched(), 0);
        x.offset(1, 9);
        due("touched() of an offset beside a ring", x.touched(), 0);
        x.put(8, 5);
        due("touched() of a constant that a ring reads", x.touched(), bits(8));
        x.formula(0, UP, 0, 0);
        due("touched() from one ring to another", x.touched(), 0);
        x.undo();
        due("touched() of undo from one ring to another", x.touched(), 0);
        x.formula(1, SUM, 1, 1);
        due("touched() from beside a ring to a ring", x.touched(), 0);
        x.put(0, 0);
        due("touched() of the one that is mended", x.touched(), bits(0));
    }

    private static void noChangeYet() {
        sentence("Promise 9", "0 when there was no change yet.");
        BlockSheet x = new BlockSheet();
        due("touched()", x.touched(), 0);
        x.put(16, 1);
        x.formula(0, 4, 1, 1);
        x.offset(0, 1);
        x.undo();
        x.most(0, 15);
        due("touched() after refused calls", x.touched(), 0);
    }

    // ---- Promises 10 and 11

    private static void readersNoneToAll() {
        sentence("Promise 10", "The cells whose formulas read the cell: bit i for cell i.");
        BlockSheet x = allBroken();
        for (int cell = 0; cell < 16; cell++) {
            due("readers(" + cell + ") when all read it", x.readers(cell), ALL);
            due("readers(" + cell + ") when none does", new BlockSheet().readers(cell), 0);
        }
        BlockSheet y = new BlockSheet();
        y.formula(0, SUM, 5, 5);
        y.formula(1, SUM, 0, 0);
        due("readers(5), not the reader's reader", y.readers(5), bits(0));
        due("readers(1), not what it reads", y.readers(1), 0);
    }

    private static void readersOfWhatIsNoCell() {
        sentence("Promise 10", "0 when cell is not 0 .. 15.");
        BlockSheet x = allBroken();
        for (int no : NOT_CELLS) {
            due("readers(" + no + ")", x.readers(no), 0);
        }
    }

    private static void dependentsNearAndFar() {
        sentence("Promise 11", "The cells whose formulas read the cell, or read a cell that is among these, and so on: "
            + "bit i for cell i");
        BlockSheet up = chainOfSixteen(0, 1);
        BlockSheet down = chainOfSixteen(15, -1);
        for (int cell = 0; cell < 16; cell++) {
            due("dependents(" + cell + ") upwards", up.dependents(cell), ALL & ~(1 << cell) & -1 << cell);
            due("dependents(" + cell + ") downwards", down.dependents(cell), (1 << cell) - 1);
            due("dependents(" + cell + ") when none reads", new BlockSheet().dependents(cell), 0);
            due("dependents(" + cell + ") when all read", allBroken().dependents(cell), ALL);
        }
    }

    private static void dependentOnItself() {
        sentence("Promise 11", "it may be among them itself");
        BlockSheet x = new BlockSheet();
        x.formula(3, SUM, 3, 3);
        due("dependents(3) of a ring of one", x.dependents(3), bits(3));
        x.formula(8, SUM, 9, 9);
        due("dependents(9), not on itself", x.dependents(9), bits(8));
        x.formula(9, SUM, 8, 8);
        due("dependents(9) of a ring of two", x.dependents(9), bits(8, 9));
        x.formula(10, SUM, 9, 9);
        due("dependents(10) beside the ring", x.dependents(10), 0);
        due("dependents(8) of the ring", x.dependents(8), bits(8, 9, 10));
        BlockSheet y = chainOfSixteen(0, 1);
        y.formula(0, SUM, 15, 15);
        for (int cell = 0; cell < 16; cell++) {
            due("dependents(" + cell + ") of a ring of sixteen", y.dependents(cell), ALL);
        }
    }

    private static void dependentsOfWhatIsNoCell() {
        sentence("Promise 11", "0 when cell is not 0 .. 15.");
        BlockSheet x = allBroken();
        for (int no : NOT_CELLS) {
            due("dependents(" + no + ")", x.dependents(no), 0);
        }
    }

    // ---- Promise 12

    private static void totalSmallLargeAndWrapping() {
        sentence("Promise 12", "The sum of the values over the rectangle of the cells a and b");
        for (int cell = 0; cell < 16; cell++) {
            due("total(" + cell + ", " + cell + ")", full().total(cell, cell), cell + 1);
        }
        due("total(0, 15)", full().total(0, 15), 136);
        due("total(15, 0)", full().total(15, 0), 136);
        due("total(3, 12)", full().total(3, 12), 136);
        due("total(12, 3)", full().total(12, 3), 136);
        BlockSheet x = new BlockSheet();
        x.put(0, MAX);
        x.put(5, 1);
        due("total(0, 5) wraps", x.total(0, 5), MIN);
        x.put(0, MIN);
        x.put(5, MIN);
        due("total(5, 0) wraps to 0", x.total(5, 0), 0);
        due("total(0, 15) of broken cells", allBroken().total(0, 15), 0);
    }

    private static void totalOfWhatIsNoCell() {
        sentence("Promise 12", "0 when a or b is not 0 .. 15");
        BlockSheet x = full();
        for (int no : NOT_CELLS) {
            due("total(" + no + ", 0)", x.total(no, 0), 0);
            due("total(0, " + no + ")", x.total(0, no), 0);
            due("total(15, " + no + ")", x.total(15, no), 0);
            due("total(" + no + ", 15)", x.total(no, 15), 0);
            due("total(" + no + ", " + no + ")", x.total(no, no), 0);
        }
    }

    // ---- Promise 13

    private static void mostLeavesBrokenOnesOut() {
        sentence("Promise 13", "The greatest value over the rectangle of the cells a and b, broken cells left out");
        BlockSheet x = new BlockSheet();
        for (int cell = 0; cell < 16; cell++) {
            x.put(cell, -1 - cell);
        }
        x.formula(0, SUM, 0, 0);
        due("most(0, 15), a broken cell not counting 0", x.most(0, 15), -2);
        due("most(15, 0)", x.most(15, 0), -2);
        due("most(12, 3)", x.most(12, 3), -2);
        due("most(3, 12)", x.most(3, 12), -2);
        for (int cell = 1; cell < 15; cell++) {
            x.formula(cell, SUM, 0, 0);
        }
        due("most(0, 15) with one sound cell", x.most(0, 15), -16);
        x.put(15, MIN);
        due("most(0, 15) with the least int in it", x.most(0, 15), MIN);
        x.put(15, MAX);
        due("most(0, 15) with the greatest int in it", x.most(0, 15), MAX);
        due("most(15, 15)", x.most(15, 15), MAX);
        due("most(0, 0) of a new object", new BlockSheet().most(0, 0), 0);
    }

    private static void mostWhenAllAreBroken() {
        sentence("Promise 13", "the least int when all are broken");
        BlockSheet x = allBroken();
        due("most(0, 15)", x.most(0, 15), MIN);
        due("most(7, 7)", x.most(7, 7), MIN);
        x.put(0, 3);
        due("most(0, 15) with one that is not", x.most(0, 15), 3);
        due("most(1, 15) without it", x.most(1, 15), MIN);
    }

    private static void mostOfWhatIsNoCell() {
        sentence("Promise 13", "or a or b is not 0 .. 15");
        BlockSheet x = full();
        for (int no : NOT_CELLS) {
            due("most(" + no + ", 0)", x.most(no, 0), MIN);
            due("most(0, " + no + ")", x.most(0, no), MIN);
            due("most(15, " + no + ")", x.most(15, no), MIN);
            due("most(" + no + ", 15)", x.most(no, 15), MIN);
            due("most(" + no + ", " + no + ")", x.most(no, no), MIN);
        }
    }

    // ---- Promise 14

    private static void theNinthPushesTheFirstOut() {
        sentence("Promise 14", "a change comes to the end of the row, and if there are eight in it already "
            + "the first of them is forgotten then");
        BlockSheet x = new BlockSheet();
        x.put(15, 10);
        x.formula(14, SUM, 15, 15);
        for (int i = 0; i < 6; i++) {
            x.put(i, 1);
        }
        x.offset(14, 5);
        for (int want : new int[] {14, 5, 4, 3, 2, 1, 0, 14, -1}) {
            due("undo() after nine", x.undo(), want);
        }
        due("value(15), whose put was pushed out", x.value(15), 10);
        due("value(14), whose formula was not", x.value(14), 0);
        BlockSheet y = puts(8);
        due("undo() of eight", y.undo(), 8);
        y.put(9, 9);
        for (int want : new int[] {9, 7, 6, 5, 4, 3, 2, 1, -1}) {
            due("undo(), seven and one being eight", y.undo(), want);
        }
    }

    private static void formulasMoveUpWhole() {
        sentence("Promise 14", "At most eight changes are remembered, in a row");
        BlockSheet x = row(3, 8, 2);
        for (int operation = 0; operation < 4; operation++) {
            x.formula(0, operation, 4, 5 + operation % 2);
            x.offset(0, 10 * operation);
            x.put(0, -1);
        }
        // Out of the row come contents that have moved up in it as others were pushed out.
        for (int want : new int[] {33, 3, -1, 23, 3, -1, 18, 8}) {
            due("undo()", x.undo(), 0);
            due("value(0)", x.value(0), want);
        }
        due("undo() past the eighth", x.undo(), -1);
    }

    private static void lastOneOutOfTheRow() {
        sentence("Promise 14", "undo takes the last one back and out of the row");
        BlockSheet x = new BlockSheet();
        x.put(0, 1);
        x.put(0, 2);
        x.put(0, 3);
        int[] want = {2, 1, 0};
        for (int v : want) {
            due("undo()", x.undo(), 0);
            due("value(0)", x.value(0), v);
        }
        due("undo()", x.undo(), -1);
    }

    private static void takenBackCountsNoMore() {
        sentence("Promise 14", "So a change that was taken back counts no more");
        BlockSheet x = puts(8);
        for (int i = 0; i < 30; i++) {
            x.put(15, 4);
            x.undo();
        }
        // The first of these thirty pushed one out, the later ones came to a row of seven.
        for (int want : new int[] {8, 7, 6, 5, 4, 3, 2, -1}) {
            due("undo() after thirty puts taken back", x.undo(), want);
        }
        due("value(1), pushed out", x.value(1), 1);
        due("total(0, 15)", x.total(0, 15), 1);
    }

    private static void forgottenDoesNotComeBack() {
        sentence("Promise 14", "one that was forgotten does not come back");
        BlockSheet x = puts(12);
        for (int i = 0; i < 8; i++) {
            x.undo();
        }
        due("undo() past the eighth", x.undo(), -1);
        due("total(0, 15) of the four forgotten", x.total(0, 15), 1 + 2 + 3 + 4);
        for (int i = 0; i < 7; i++) {
            x.put(0, i);
        }
        for (int i = 0; i < 7; i++) {
            due("undo()", x.undo(), 0);
        }
        due("undo() past the seventh", x.undo(), -1);
        due("total(0, 15)", x.total(0, 15), 10);
    }

    private static void refusedCallsChangeNothing() {
        sentence("Promise 14", "a call that is refused (by a code below 0 that is named, or by false) changes nothing");
        refused("many refused calls", x -> {
            boolean any = false;
            for (int i = 0; i < 9; i++) {
                any |= x.put(16, i);
                any |= x.formula(0, 4, 0, 0);
                any |= x.formula(0, 0, 0, -1);
                any |= x.offset(1, i);
            }
            return any;
        });
        BlockSheet x = busy();
        int touched = x.touched();
        due("touched() before", touched != 0, true);
        x.put(-1, 1);
        due("touched() after a refused put", x.touched(), touched);
        x.formula(0, -1, 0, 0);
        due("touched() after a refused formula", x.touched(), touched);
        x.offset(0, 1);
        due("touched() after a refused offset", x.touched(), touched);
        BlockSheet y = new BlockSheet();
        y.put(6, 1);
        y.undo();
        y.undo();
        due("touched() after a refused undo", y.touched(), bits(6));
    }

    private static void questionsChangeNothing() {
        sentence("Not promised", "Nothing is promised beyond the answers and state changes described above");
        refused("every question", x -> {
            for (int cell = -1; cell <= 16; cell++) {
                x.value(cell);
                x.broken(cell);
                x.readers(cell);
                x.dependents(cell);
                x.total(cell, 15 - cell);
                x.most(cell, 15 - cell);
            }
            x.brokenCells();
            x.touched();
            return false;
        });
    }

    private static void whatItIsAndTerms() {
        theLastCall();
        rowsEnd();
        rectanglesHaveTheirEnds();
        ownCellIsRead();
        ringsShortAndLong();
        twoWaysAreNoRing();
        constantsAreNeverBroken();
        readersOfBrokenCells();
        greatestAtTheEnds();
        leastAtTheEnds();
        aboveZero();
        sumsWrap();
        brokenCountsZero();
    }

    private static void promises1To5() {
        everyCellHoldsZero();
        nothingToUndoAtFirst();
        putTakesAnyInt();
        putRefusesWhatIsNoCell();
        formulaHasOffsetZero();
        formulaTakesTheEnds();
        formulaRefusesWhatIsNoCell();
        formulaRefusesWhatIsNoOperation();
        offsetTakesAnyInt();
        offsetRefusesWhatIsNoCell();
        offsetRefusesConstants();
        heldBefore();
        changesWithoutDifference();
        lastEight();
        takingBackForgets();
        undoOfNothing();
    }

    private static void promises6To14() {
        valueWhenBroken();
        valueOfWhatIsNoCell();
        brokenOfWhatIsNoCell();
        brokenCellsNoneToAll();
        touchedByTheLastChangeAlone();
        brokenBeforeAndAfter();
        noChangeYet();
        readersNoneToAll();
        readersOfWhatIsNoCell();
        dependentsNearAndFar();
        dependentOnItself();
        dependentsOfWhatIsNoCell();
        totalSmallLargeAndWrapping();
        totalOfWhatIsNoCell();
        mostLeavesBrokenOnesOut();
        mostWhenAllAreBroken();
        mostOfWhatIsNoCell();
        theNinthPushesTheFirstOut();
        formulasMoveUpWhole();
        lastOneOutOfTheRow();
        takenBackCountsNoMore();
        forgottenDoesNotComeBack();
        refusedCallsChangeNothing();
        questionsChangeNothing();
    }

    public static void main(String[] args) {
        whatItIsAndTerms();
        promises1To5();
        promises6To14();
        System.out.println(wrong == 0 ? sentences + " sentences hold" : wrong + " answers are not as due");
        if (wrong != 0) {
            System.exit(1);
        }
    }
}
