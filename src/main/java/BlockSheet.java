/** A sheet of sixteen cells whose formulas run over rectangles of cells. */
public final class BlockSheet {
    public static final int SUM = 0;
    public static final int MOST = 1;
    public static final int LEAST = 2;
    public static final int UP = 3;

    private static final int SIDE = 4;
    private static final int CELLS = 16;
    private static final int HISTORY = 8;
    private static final int LEAST_INT = -2147483648;
    private static final int GREATEST_INT = 2147483647;

    // Sets of cells are ints with bit i for cell i, as the document answers them.
    // A rectangle is never empty, so an empty set in reads marks a constant.
    private final int[] reads = new int[CELLS];
    private final int[] operations = new int[CELLS];
    // The constant of a cell, or the offset of its formula.
    private final int[] numbers = new int[CELLS];

    // What follows from the contents; a broken cell has the value 0 here.
    private final int[] values = new int[CELLS];
    private int brokenSet = 0;

    private final int[] valuesBefore = new int[CELLS];
    private int touchedSet = 0;

    // The remembered changes, the oldest first: the cell, and what it held before.
    private final int[] pastCells = new int[HISTORY];
    private final int[] pastReads = new int[HISTORY];
    private final int[] pastOperations = new int[HISTORY];
    private final int[] pastNumbers = new int[HISTORY];
    private int pastCount = 0;

    public BlockSheet() {
    }

    public boolean put(int cell, int v) {
        if (!isCell(cell)) {
            return false;
        }
        remember(cell);
        hold(cell, 0, SUM, v);
        return true;
    }

    public boolean formula(int cell, int operation, int a, int b) {
        if (!isCell(cell) || !isCell(a) || !isCell(b) || operation < SUM || operation > UP) {
            return false;
        }
        int rectangle = rectangleOf(a, b);
        remember(cell);
        hold(cell, rectangle, operation, 0);
        return true;
    }

    public boolean offset(int cell, int v) {
        if (!isCell(cell) || reads[cell] == 0) {
            return false;
        }
        remember(cell);
        hold(cell, reads[cell], operations[cell], v);
        return true;
    }

    public int undo() {
        if (pastCount < 1) {
            return -1;
        }
        pastCount--;
        int cell = pastCells[pastCount];
        hold(cell, pastReads[pastCount], pastOperations[pastCount], pastNumbers[pastCount]);
        return cell;
    }

    public int value(int cell) {
        return isCell(cell) ? values[cell] : 0;
    }

    public boolean broken(int cell) {
        return isCell(cell) && (brokenSet & 1 << cell) != 0;
    }

    public int brokenCells() {
        return brokenSet;
    }

    public int touched() {
        return touchedSet;
    }

    public int readers(int cell) {
        return isCell(cell) ? readersOf(1 << cell) : 0;
    }

    public int dependents(int cell) {
        if (!isCell(cell)) {
            return 0;
        }
        int found = readersOf(1 << cell);
        // A round adds a cell or nothing is left to add, so as many rounds as cells are enough.
        for (int round = 0; round < CELLS; round++) {
            found |= readersOf(found);
        }
        return found;
    }

    public int total(int a, int b) {
        if (!isCell(a) || !isCell(b)) {
            return 0;
        }
        int rectangle = rectangleOf(a, b);
        return sumOf(rectangle);
    }

    public int most(int a, int b) {
        if (!isCell(a) || !isCell(b)) {
            return LEAST_INT;
        }
        int rectangle = rectangleOf(a, b);
        return greatestOf(rectangle & ~brokenSet);
    }

    private static boolean isCell(int cell) {
        return cell >= 0 && cell < CELLS;
    }

    private static boolean isBetween(int x, int end, int otherEnd) {
        return end <= otherEnd ? end <= x && x <= otherEnd : otherEnd <= x && x <= end;
    }

    private static int rectangleOf(int a, int b) {
        int set = 0;
        for (int cell = 0; cell < CELLS; cell++) {
            if (isBetween(cell / SIDE, a / SIDE, b / SIDE) && isBetween(cell % SIDE, a % SIDE, b % SIDE)) {
                set |= 1 << cell;
            }
        }
        return set;
    }

    private int readersOf(int set) {
        int found = 0;
        for (int cell = 0; cell < CELLS; cell++) {
            if ((reads[cell] & set) != 0) {
                found |= 1 << cell;
            }
        }
        return found;
    }

    private void remember(int cell) {
        if (pastCount >= HISTORY) {
            forgetOldest();
        }
        pastCells[pastCount] = cell;
        pastReads[pastCount] = reads[cell];
        pastOperations[pastCount] = operations[cell];
        pastNumbers[pastCount] = numbers[cell];
        pastCount++;
    }

    private void forgetOldest() {
        for (int i = 1; i < HISTORY; i++) {
            pastCells[i - 1] = pastCells[i];
            pastReads[i - 1] = pastReads[i];
            pastOperations[i - 1] = pastOperations[i];
            pastNumbers[i - 1] = pastNumbers[i];
        }
        pastCount = HISTORY - 1;
    }

    private void hold(int cell, int rectangle, int operation, int number) {
        int brokenBefore = brokenSet;
        for (int i = 0; i < CELLS; i++) {
            valuesBefore[i] = values[i];
        }
        reads[cell] = rectangle;
        operations[cell] = operation;
        numbers[cell] = number;
        settle();
        touchedSet = (brokenBefore ^ brokenSet) | differingValues();
    }

    // A cell broken before and after has the value 0 both times, so it does not differ here.
    private int differingValues() {
        int set = 0;
        for (int cell = 0; cell < CELLS; cell++) {
            if (values[cell] != valuesBefore[cell]) {
                set |= 1 << cell;
            }
        }
        return set;
    }

    // A cell is worked out once all that it reads is. Every round works out at least
    // one more cell while any can be, so what is left after as many rounds as there
    // are cells waits on a ring: it is broken.
    private void settle() {
        int open = (1 << CELLS) - 1;
        for (int round = 0; round < CELLS; round++) {
            for (int cell = 0; cell < CELLS; cell++) {
                if ((open & 1 << cell) != 0 && (reads[cell] & open) == 0) {
                    values[cell] = workedOut(cell);
                    open &= ~(1 << cell);
                }
            }
        }
        brokenSet = open;
        for (int cell = 0; cell < CELLS; cell++) {
            if ((open & 1 << cell) != 0) {
                values[cell] = 0;
            }
        }
    }

    private int workedOut(int cell) {
        if (reads[cell] == 0) {
            return numbers[cell];
        }
        switch (operations[cell]) {
            case MOST:
                return greatestOf(reads[cell]) + numbers[cell];
            case LEAST:
                return leastOf(reads[cell]) + numbers[cell];
            case UP:
                return countAboveZero(reads[cell]) + numbers[cell];
            default:
                return sumOf(reads[cell]) + numbers[cell];
        }
    }

    private int sumOf(int set) {
        int sum = 0;
        for (int cell = 0; cell < CELLS; cell++) {
            if ((set & 1 << cell) != 0) {
                sum += values[cell];
            }
        }
        return sum;
    }

    private int greatestOf(int set) {
        int greatest = LEAST_INT;
        for (int cell = 0; cell < CELLS; cell++) {
            if ((set & 1 << cell) != 0 && values[cell] > greatest) {
                greatest = values[cell];
            }
        }
        return greatest;
    }

    private int leastOf(int set) {
        int least = GREATEST_INT;
        for (int cell = 0; cell < CELLS; cell++) {
            if ((set & 1 << cell) != 0 && values[cell] < least) {
                least = values[cell];
            }
        }
        return least;
    }

    private int countAboveZero(int set) {
        int count = 0;
        for (int cell = 0; cell < CELLS; cell++) {
            if ((set & 1 << cell) != 0 && values[cell] > 0) {
                count++;
            }
        }
        return count;
    }
}
