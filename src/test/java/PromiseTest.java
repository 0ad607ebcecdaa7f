/** One method for each promise of the document: ordinary inputs, named edges, wrong inputs. */
public final class PromiseTest {
    private static final int MIN = Integer.MIN_VALUE;
    private static final int MAX = Integer.MAX_VALUE;
    private static final int[] NOT_CELLS = {-1, 16, 17, -16, 32, MIN, MAX};

    private static int wrong = 0;

    private static void due(String call, long got, long want) {
        if (got != want) {
            wrong++;
            System.out.println(call + " answered " + got + ", due is " + want);
        }
    }

    private static void due(String call, boolean got, boolean want) {
        due(call, got ? 1L : 0L, want ? 1L : 0L);
    }

    private static int bits(int... cells) {
        int set = 0;
        for (int cell : cells) {
            set |= 1 << cell;
        }
        return set;
    }

    /** Cells 0 .. 15 hold 1, 2, 4 .. so that a sum tells which cells are in it. */
    private static BlockSheet powers() {
        BlockSheet x = new BlockSheet();
        for (int cell = 0; cell < 16; cell++) {
            x.put(cell, 1 << cell);
        }
        return x;
    }

    private static void promise1NewObject() {
        BlockSheet x = new BlockSheet();
        for (int cell = 0; cell < 16; cell++) {
            due("1: value(" + cell + ")", x.value(cell), 0);
            due("1: broken(" + cell + ")", x.broken(cell), false);
            due("1: readers(" + cell + ")", x.readers(cell), 0);
            due("1: dependents(" + cell + ")", x.dependents(cell), 0);
            due("1: offset(" + cell + ", 1) on a constant", x.offset(cell, 1), false);
        }
        due("1: brokenCells()", x.brokenCells(), 0);
        due("1: touched()", x.touched(), 0);
        due("1: total(0, 15)", x.total(0, 15), 0);
        due("1: most(0, 15)", x.most(0, 15), 0);
        due("1: undo()", x.undo(), -1);
        due("1: touched() after an undo of nothing", x.touched(), 0);
        BlockSheet y = new BlockSheet();
        x.put(3, 9);
        due("1: another object's value(3)", y.value(3), 0);
        due("1: another object's undo()", y.undo(), -1);
    }

    private static void promise2Put() {
        BlockSheet x = new BlockSheet();
        for (int v : new int[] {7, 0, -7, MIN, MAX}) {
            for (int cell : new int[] {0, 6, 15}) {
                due("2: put(" + cell + ", " + v + ")", x.put(cell, v), true);
                due("2: value(" + cell + ")", x.value(cell), v);
            }
        }
        due("2: formula(5, SUM, 0, 0)", x.formula(5, BlockSheet.SUM, 0, 0), true);
        due("2: offset(5, 3)", x.offset(5, 3), true);
        due("2: put over a formula", x.put(5, 11), true);
        due("2: value(5)", x.value(5), 11);
        due("2: readers(0)", x.readers(0), 0);
        due("2: offset(5, 3) on a constant again", x.offset(5, 3), false);
        int touched = x.touched();
        for (int cell : NOT_CELLS) {
            due("2: put(" + cell + ", 99)", x.put(cell, 99), false);
        }
        due("2: touched() after refused puts", x.touched(), touched);
        due("2: undo() after refused puts", x.undo(), 5);
        // Cell 0 was left holding MAX, so the formula with offset 3 wraps.
        due("2: value(5) after undo", x.value(5), MAX + 3);
    }

    private static void promise3Formula() {
        BlockSheet x = new BlockSheet();
        x.put(0, 5);
        x.put(1, -3);
        x.put(4, 7);
        x.put(5, 0);
        due("3: SUM", x.formula(15, BlockSheet.SUM, 0, 5), true);
        due("3: value of SUM", x.value(15), 9);
        due("3: MOST", x.formula(15, BlockSheet.MOST, 0, 5), true);
        due("3: value of MOST", x.value(15), 7);
        due("3: LEAST", x.formula(15, BlockSheet.LEAST, 0, 5), true);
        due("3: value of LEAST", x.value(15), -3);
        due("3: UP", x.formula(15, BlockSheet.UP, 0, 5), true);
        due("3: value of UP, 0 not being above 0", x.value(15), 2);
        x.offset(15, 100);
        due("3: formula over a formula", x.formula(15, BlockSheet.UP, 0, 5), true);
        due("3: its offset is 0 again", x.value(15), 2);
        x.put(15, 50);
        x.formula(15, BlockSheet.SUM, 4, 4);
        due("3: formula over a constant has offset 0", x.value(15), 7);
        x.undo();
        refusedFormulas(x);
        due("3: value(15) after refused formulas", x.value(15), 50);
        due("3: undo() after refused formulas", x.undo(), 15);
        negativesAlone();
        everyCellIsRead();
        everyRectangle();
    }

    private static void refusedFormulas(BlockSheet x) {
        int touched = x.touched();
        for (int cell : NOT_CELLS) {
            due("3: formula(" + cell + ", 0, 0, 0)", x.formula(cell, 0, 0, 0), false);
            due("3: formula(15, 0, " + cell + ", 0)", x.formula(15, 0, cell, 0), false);
            due("3: formula(15, 0, 0, " + cell + ")", x.formula(15, 0, 0, cell), false);
        }
        for (int operation : new int[] {-1, 4, 5, MIN, MAX}) {
            due("3: formula(15, " + operation + ", 0, 0)", x.formula(15, operation, 0, 0), false);
        }
        due("3: touched() after refused formulas", x.touched(), touched);
    }

    private static void negativesAlone() {
        BlockSheet x = new BlockSheet();
        x.put(8, -5);
        x.put(9, -2);
        x.formula(0, BlockSheet.MOST, 8, 9);
        x.formula(1, BlockSheet.LEAST, 8, 9);
        x.formula(2, BlockSheet.UP, 8, 9);
        due("3: MOST of negatives", x.value(0), -2);
        due("3: LEAST of negatives", x.value(1), -5);
        due("3: UP of negatives", x.value(2), 0);
        x.put(8, MIN);
        x.put(9, MIN);
        due("3: MOST of least ints", x.value(0), MIN);
        x.put(8, MAX);
        x.put(9, MAX);
        due("3: LEAST of greatest ints", x.value(1), MAX);
    }

    /** Each operation over each cell alone, with the numbers nearest to 0. */
    private static void everyCellIsRead() {
        BlockSheet x = new BlockSheet();
        for (int cell = 0; cell < 16; cell++) {
            int holder = cell + 1 & 15;
            for (int operation = 0; operation < 4; operation++) {
                x.formula(holder, operation, cell, cell);
                for (int v : new int[] {1, -1}) {
                    x.put(cell, v);
                    int want = operation == BlockSheet.UP ? Math.max(v, 0) : v;
                    due("3: operation " + operation + " over cell " + cell, x.value(holder), want);
                }
            }
        }
    }

    private static int rectangle(int a, int b) {
        int set = 0;
        for (int r = Math.min(a / 4, b / 4); r <= Math.max(a / 4, b / 4); r++) {
            for (int c = Math.min(a % 4, b % 4); c <= Math.max(a % 4, b % 4); c++) {
                set |= 1 << 4 * r + c;
            }
        }
        return set;
    }

    private static void everyRectangle() {
        for (int a = 0; a < 16; a++) {
            for (int b = 0; b < 16; b++) {
                BlockSheet x = powers();
                int set = rectangle(a, b);
                due("12: total(" + a + ", " + b + ")", x.total(a, b), set);
                due("13: most(" + a + ", " + b + ")", x.most(a, b), Integer.highestOneBit(set));
                for (int cell = 0; cell < 16; cell++) {
                    x.formula(cell, BlockSheet.SUM, a, b);
                    boolean own = (set >> cell & 1) != 0;
                    String call = "3: formula(" + cell + ", SUM, " + a + ", " + b + ")";
                    due(call + " broken", x.broken(cell), own);
                    due(call + " value", x.value(cell), own ? 0 : set);
                    x.undo();
                }
            }
        }
    }

    private static void promise4Offset() {
        BlockSheet x = new BlockSheet();
        x.put(0, 10);
        x.formula(1, BlockSheet.MOST, 0, 0);
        due("4: offset(1, 5)", x.offset(1, 5), true);
        due("4: value(1)", x.value(1), 15);
        due("4: offset(1, -4) takes the place of 5", x.offset(1, -4), true);
        due("4: value(1)", x.value(1), 6);
        due("4: offset(1, MAX)", x.offset(1, MAX), true);
        due("4: value(1) wraps", x.value(1), MAX + 10);
        due("4: offset(1, MIN)", x.offset(1, MIN), true);
        due("4: value(1)", x.value(1), MIN + 10);
        due("4: readers(0) stays", x.readers(0), bits(1));
        int touched = x.touched();
        due("4: offset(0, 1) on a constant", x.offset(0, 1), false);
        for (int cell : NOT_CELLS) {
            due("4: offset(" + cell + ", 1)", x.offset(cell, 1), false);
        }
        due("4: value(0) after refused offsets", x.value(0), 10);
        due("4: touched() after refused offsets", x.touched(), touched);
        due("4: undo() after refused offsets", x.undo(), 1);
        due("4: value(1) has the offset before", x.value(1), MAX + 10);
        x.formula(15, BlockSheet.SUM, 15, 15);
        due("4: offset(15, 8) on a broken cell", x.offset(15, 8), true);
        due("4: value(15) stays 0", x.value(15), 0);
        due("4: touched() of a broken cell's offset", x.touched(), 0);
        due("4: undo() of a broken cell's offset", x.undo(), 15);
        everyOperationTakesAnOffset();
    }

    private static void everyOperationTakesAnOffset() {
        BlockSheet x = new BlockSheet();
        x.put(4, 2);
        x.put(5, 3);
        int[] want = {105, 103, 102, 102};
        for (int operation = 0; operation < 4; operation++) {
            x.formula(0, operation, 4, 5);
            x.offset(0, 100);
            due("4: operation " + operation + " with offset 100", x.value(0), want[operation]);
        }
    }

    private static void promise5Undo() {
        BlockSheet x = new BlockSheet();
        x.put(2, 4);
        x.put(2, 4);
        x.formula(3, BlockSheet.SUM, 2, 2);
        x.offset(3, 6);
        x.put(3, 1);
        due("5: undo() of put", x.undo(), 3);
        due("5: value(3)", x.value(3), 10);
        x.put(2, 5);
        due("5: the formula is there again", x.value(3), 11);
        due("5: undo()", x.undo(), 2);
        due("5: undo() of offset", x.undo(), 3);
        due("5: value(3)", x.value(3), 4);
        due("5: undo() of formula", x.undo(), 3);
        due("5: value(3)", x.value(3), 0);
        due("5: offset(3, 1) on a constant", x.offset(3, 1), false);
        due("5: undo() of a put without difference", x.undo(), 2);
        due("5: value(2)", x.value(2), 4);
        due("5: undo() of the first put", x.undo(), 2);
        due("5: value(2)", x.value(2), 0);
        due("5: undo() of nothing", x.undo(), -1);
        due("5: undo() of nothing again", x.undo(), -1);
        x.put(7, 1);
        due("5: undo() after undo of nothing", x.undo(), 7);
        due("5: undo() is no change to take back", x.undo(), -1);
    }

    private static void promise6Value() {
        BlockSheet x = new BlockSheet();
        x.put(15, 3);
        x.formula(0, BlockSheet.SUM, 1, 1);
        x.formula(1, BlockSheet.SUM, 2, 2);
        x.formula(2, BlockSheet.SUM, 15, 15);
        due("6: value(0) at the end of a chain", x.value(0), 3);
        x.put(15, MAX);
        x.put(14, MAX);
        x.formula(0, BlockSheet.SUM, 14, 15);
        due("6: value(0) wraps", x.value(0), -2);
        x.formula(14, BlockSheet.SUM, 0, 0);
        x.offset(14, 77);
        due("6: value(0) broken", x.value(0), 0);
        due("6: value(14) broken with an offset", x.value(14), 0);
        for (int cell : NOT_CELLS) {
            due("6: value(" + cell + ")", x.value(cell), 0);
        }
        longestChain();
    }

    /** All sixteen cells in one chain, laid in both directions. */
    private static void longestChain() {
        BlockSheet up = new BlockSheet();
        BlockSheet down = new BlockSheet();
        for (int cell = 0; cell < 15; cell++) {
            up.formula(cell, BlockSheet.SUM, cell + 1, cell + 1);
            up.offset(cell, 1);
            down.formula(15 - cell, BlockSheet.SUM, 14 - cell, 14 - cell);
            down.offset(15 - cell, 1);
        }
        up.put(15, 100);
        down.put(0, 100);
        due("6: value(0) of the longest chain", up.value(0), 115);
        due("6: value(15) of the longest chain", down.value(15), 115);
        due("9: touched() of the longest chain", up.touched(), 0xFFFF);
        due("11: dependents(15) of the longest chain", up.dependents(15), 0x7FFF);
        due("11: dependents(0) of the longest chain", down.dependents(0), 0xFFFE);
        up.formula(15, BlockSheet.SUM, 0, 0);
        due("8: brokenCells() of the longest ring", up.brokenCells(), 0xFFFF);
        due("11: dependents(7) of the longest ring", up.dependents(7), 0xFFFF);
    }

    private static void promise7Broken() {
        BlockSheet x = new BlockSheet();
        x.formula(0, BlockSheet.SUM, 1, 1);
        x.formula(1, BlockSheet.SUM, 0, 0);
        x.formula(2, BlockSheet.LEAST, 1, 1);
        x.formula(3, BlockSheet.UP, 2, 2);
        x.formula(4, BlockSheet.SUM, 8, 8);
        due("7: broken(0) on a ring", x.broken(0), true);
        due("7: broken(1) on a ring", x.broken(1), true);
        due("7: broken(2) reads a ring", x.broken(2), true);
        due("7: broken(3) reads a reader of a ring", x.broken(3), true);
        due("7: broken(4) reads a constant", x.broken(4), false);
        due("7: broken(8) a constant", x.broken(8), false);
        x.formula(0, BlockSheet.SUM, 4, 8);
        due("7: broken(3) after the ring is opened", x.broken(3), false);
        x.formula(8, BlockSheet.SUM, 8, 8);
        due("7: broken(8) reads itself", x.broken(8), true);
        due("7: broken(3) after another ring", x.broken(3), true);
        for (int cell : NOT_CELLS) {
            due("7: broken(" + cell + ")", x.broken(cell), false);
        }
        BlockSheet y = new BlockSheet();
        y.formula(0, BlockSheet.SUM, 1, 2);
        y.formula(1, BlockSheet.SUM, 3, 3);
        y.formula(2, BlockSheet.SUM, 3, 3);
        y.formula(3, BlockSheet.SUM, 7, 7);
        due("7: two ways to one cell are no ring", y.broken(0), false);
    }

    private static void promise8BrokenCells() {
        BlockSheet x = new BlockSheet();
        x.formula(15, BlockSheet.SUM, 0, 15);
        due("8: brokenCells()", x.brokenCells(), bits(15));
        x.formula(0, BlockSheet.SUM, 15, 15);
        due("8: brokenCells()", x.brokenCells(), bits(0, 15));
        x.formula(5, BlockSheet.SUM, 6, 6);
        due("8: brokenCells() without a sound formula", x.brokenCells(), bits(0, 15));
        x.put(15, 1);
        due("8: brokenCells() after the repair", x.brokenCells(), 0);
        for (int cell = 0; cell < 16; cell++) {
            x.formula(cell, BlockSheet.SUM, cell, cell);
        }
        due("8: brokenCells() when all are", x.brokenCells(), 0xFFFF);
    }

    private static void promise9Touched() {
        BlockSheet x = new BlockSheet();
        due("9: touched() at first", x.touched(), 0);
        x.put(0, 5);
        due("9: touched() after put", x.touched(), bits(0));
        x.put(0, 5);
        due("9: touched() after the same put", x.touched(), 0);
        x.formula(15, BlockSheet.MOST, 0, 5);
        due("9: touched() after formula", x.touched(), bits(15));
        x.put(1, 4);
        due("9: touched() leaves an equal value out", x.touched(), bits(1));
        x.put(16, 4);
        x.undo();
        due("9: touched() after undo", x.touched(), bits(1));
        x.formula(0, BlockSheet.SUM, 15, 15);
        due("9: touched() when a ring comes", x.touched(), bits(0, 15));
        x.offset(0, 9);
        due("9: touched() within a ring", x.touched(), 0);
        x.undo();
        due("9: touched() of undo within a ring", x.touched(), 0);
        x.undo();
        due("9: touched() when a ring goes", x.touched(), bits(0, 15));
        onlyBrokennessDiffers();
        touchedAfterUndoOfNothing();
    }

    private static void onlyBrokennessDiffers() {
        BlockSheet x = new BlockSheet();
        x.formula(9, BlockSheet.SUM, 9, 9);
        due("9: touched() from 0 to broken", x.touched(), bits(9));
        x.put(9, 0);
        due("9: touched() from broken to 0", x.touched(), bits(9));
        x.formula(9, BlockSheet.SUM, 8, 8);
        due("9: touched() from constant 0 to formula 0", x.touched(), 0);
        x.formula(8, BlockSheet.SUM, 9, 9);
        x.formula(8, BlockSheet.SUM, 8, 8);
        due("9: touched() from one ring to another", x.touched(), 0);
    }

    private static void touchedAfterUndoOfNothing() {
        BlockSheet x = new BlockSheet();
        x.put(6, 1);
        x.undo();
        due("9: touched() after undo", x.touched(), bits(6));
        x.undo();
        due("9: touched() stays after undo of nothing", x.touched(), bits(6));
    }

    private static void promise10Readers() {
        BlockSheet x = new BlockSheet();
        x.formula(0, BlockSheet.SUM, 5, 10);
        x.formula(15, BlockSheet.UP, 10, 10);
        x.formula(10, BlockSheet.MOST, 10, 11);
        x.formula(1, BlockSheet.SUM, 0, 0);
        due("10: readers(10), itself too", x.readers(10), bits(0, 10, 15));
        due("10: readers(5)", x.readers(5), bits(0));
        due("10: readers(9)", x.readers(9), bits(0));
        due("10: readers(7)", x.readers(7), 0);
        due("10: readers(11)", x.readers(11), bits(10));
        due("10: readers(0)", x.readers(0), bits(1));
        x.put(0, 1);
        due("10: readers(10) after put", x.readers(10), bits(10, 15));
        x.undo();
        due("10: readers(10) after undo", x.readers(10), bits(0, 10, 15));
        for (int cell : NOT_CELLS) {
            due("10: readers(" + cell + ")", x.readers(cell), 0);
        }
    }

    private static void promise11Dependents() {
        BlockSheet x = new BlockSheet();
        x.formula(8, BlockSheet.SUM, 12, 12);
        x.formula(4, BlockSheet.SUM, 8, 8);
        x.formula(0, BlockSheet.SUM, 4, 4);
        due("11: dependents(12)", x.dependents(12), bits(0, 4, 8));
        due("11: dependents(4)", x.dependents(4), bits(0));
        due("11: dependents(0)", x.dependents(0), 0);
        x.formula(12, BlockSheet.SUM, 4, 4);
        due("11: dependents(12), itself too", x.dependents(12), bits(0, 4, 8, 12));
        due("11: dependents(0) beside the ring", x.dependents(0), 0);
        x.formula(15, BlockSheet.SUM, 15, 15);
        due("11: dependents(15)", x.dependents(15), bits(15));
        due("11: dependents(14)", x.dependents(14), 0);
        for (int cell : NOT_CELLS) {
            due("11: dependents(" + cell + ")", x.dependents(cell), 0);
        }
    }

    private static void promise12Total() {
        BlockSheet x = powers();
        due("12: total(6, 9)", x.total(6, 9), bits(5, 6, 9, 10));
        x.formula(5, BlockSheet.SUM, 5, 5);
        x.offset(5, 1000);
        due("12: total(6, 9) with a broken cell", x.total(6, 9), bits(6, 9, 10));
        due("12: total(5, 5) broken alone", x.total(5, 5), 0);
        x.put(0, MAX);
        x.put(1, MAX);
        due("12: total(0, 1) wraps", x.total(0, 1), -2);
        for (int cell : NOT_CELLS) {
            due("12: total(" + cell + ", 0)", x.total(cell, 0), 0);
            due("12: total(0, " + cell + ")", x.total(0, cell), 0);
        }
    }

    private static void promise13Most() {
        BlockSheet x = new BlockSheet();
        x.put(0, -5);
        x.put(1, -9);
        due("13: most(0, 1) of negatives", x.most(0, 1), -5);
        due("13: most(1, 0)", x.most(1, 0), -5);
        x.formula(0, BlockSheet.SUM, 0, 0);
        due("13: most(0, 1) without the broken cell", x.most(0, 1), -9);
        due("13: most(0, 0) all broken", x.most(0, 0), MIN);
        x.formula(1, BlockSheet.SUM, 0, 0);
        due("13: most(0, 1) all broken", x.most(0, 1), MIN);
        x.put(15, MAX);
        due("13: most(0, 15)", x.most(0, 15), MAX);
        for (int cell : NOT_CELLS) {
            due("13: most(" + cell + ", 15)", x.most(cell, 15), MIN);
            due("13: most(15, " + cell + ")", x.most(15, cell), MIN);
        }
    }

    private static void promise14OrderAndLimits() {
        BlockSheet eight = new BlockSheet();
        BlockSheet nine = new BlockSheet();
        for (int cell = 0; cell < 8; cell++) {
            eight.put(cell, cell + 1);
        }
        for (int cell = 0; cell < 9; cell++) {
            nine.put(cell, cell + 1);
        }
        for (int back = 0; back < 8; back++) {
            due("14: undo() of eight", eight.undo(), 7 - back);
            due("14: undo() of nine", nine.undo(), 8 - back);
        }
        due("14: undo() of eight, the ninth time", eight.undo(), -1);
        due("14: undo() of nine, the ninth time", nine.undo(), -1);
        due("14: total(0, 15) of eight", eight.total(0, 15), 0);
        due("14: total(0, 15) of nine", nine.total(0, 15), 1);
        takenBackCountsNoMore();
        refusedCallsTakeNoPlace();
        formulasComeBackWhole();
    }

    /** More than eight changes, so that the row has moved up before formulas come back out of it. */
    private static void formulasComeBackWhole() {
        BlockSheet x = new BlockSheet();
        x.put(4, 3);
        x.put(5, 8);
        for (int operation = 0; operation < 4; operation++) {
            x.formula(0, operation, 4, 5);
            x.offset(0, 10 * operation);
            x.put(0, -1);
        }
        for (int want : new int[] {32, 2, -1, 23, 3, -1, 18, 8}) {
            due("14: undo() of a formula's cell", x.undo(), 0);
            due("14: value(0) out of the row", x.value(0), want);
        }
        due("14: undo() of no more", x.undo(), -1);
    }

    private static void takenBackCountsNoMore() {
        BlockSheet x = new BlockSheet();
        for (int i = 1; i <= 8; i++) {
            x.put(0, i);
        }
        x.undo();
        x.undo();
        x.put(1, 1);
        x.formula(2, BlockSheet.SUM, 0, 0);
        for (int want : new int[] {2, 1, 0, 0, 0, 0, 0, 0, -1}) {
            due("14: undo() after two were taken back", x.undo(), want);
        }
        due("14: value(0), nothing was forgotten", x.value(0), 0);
        for (int i = 1; i <= 20; i++) {
            x.put(0, i);
        }
        x.undo();
        due("14: value(0)", x.value(0), 19);
        for (int i = 0; i < 7; i++) {
            x.undo();
        }
        due("14: value(0) after eight of twenty", x.value(0), 12);
        due("14: a forgotten change does not come back", x.undo(), -1);
        due("14: value(0) stays", x.value(0), 12);
    }

    private static void refusedCallsTakeNoPlace() {
        BlockSheet x = new BlockSheet();
        for (int cell = 0; cell < 8; cell++) {
            x.put(cell, 1);
        }
        for (int i = 0; i < 9; i++) {
            x.put(16, 1);
            x.formula(0, 4, 0, 0);
            x.offset(0, 1);
        }
        for (int cell = 7; cell >= 0; cell--) {
            due("14: undo() after refused calls", x.undo(), cell);
        }
        due("14: undo() after refused calls", x.undo(), -1);
    }

    public static void main(String[] args) {
        promise1NewObject();
        promise2Put();
        promise3Formula();
        promise4Offset();
        promise5Undo();
        promise6Value();
        promise7Broken();
        promise8BrokenCells();
        promise9Touched();
        promise10Readers();
        promise11Dependents();
        promise12Total();
        promise13Most();
        promise14OrderAndLimits();
        System.out.println(wrong == 0 ? "all answers are as due" : wrong + " answers are not as due");
        if (wrong != 0) {
            System.exit(1);
        }
    }
}
