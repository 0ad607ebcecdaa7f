import java.util.ArrayList;
import java.util.List;

/**
 * Long runs of calls, answered by the class and by a model that follows the document's words
 * and works everything out anew for each question. The runs are the same each time.
 */
public final class ModelTest {
    private static final int RUNS = 1000;
    private static final int CALLS = 512;
    // The shapes of a run: 0 any rectangle, 1 and 2 rectangles of that reach, 3 chains.
    private static final int SHAPES = 4;
    private static final int CHAINS = 3;
    private static final int[] WRONG_CELLS = {-1, 16, 31, Integer.MIN_VALUE, Integer.MAX_VALUE};
    private static final int[] EDGE_NUMBERS = {Integer.MIN_VALUE, Integer.MAX_VALUE, 0, 1, -1, 1 << 30};

    private record Content(boolean formula, int operation, int a, int b, int number) {
        boolean reads(int cell) {
            return formula && within(cell, a, b);
        }
    }

    private record Change(int cell, Content before) {
    }

    private static boolean within(int cell, int a, int b) {
        return Math.min(a / 4, b / 4) <= cell / 4 && cell / 4 <= Math.max(a / 4, b / 4)
            && Math.min(a % 4, b % 4) <= cell % 4 && cell % 4 <= Math.max(a % 4, b % 4);
    }

    private static boolean isCell(int cell) {
        return cell >= 0 && cell <= 15;
    }

    private static final class Model {
        private final Content[] cells = new Content[16];
        private final List<Change> row = new ArrayList<>();
        private int touched = 0;

        Model() {
            for (int i = 0; i < 16; i++) {
                cells[i] = new Content(false, 0, 0, 0, 0);
            }
        }

        /** leads[i][j]: a chain of one step or more goes from i to j. */
        private boolean[][] chains() {
            boolean[][] leads = new boolean[16][16];
            for (int i = 0; i < 16; i++) {
                for (int j = 0; j < 16; j++) {
                    leads[i][j] = cells[i].reads(j);
                }
            }
            for (int k = 0; k < 16; k++) {
                for (int i = 0; i < 16; i++) {
                    for (int j = 0; j < 16; j++) {
                        leads[i][j] |= leads[i][k] && leads[k][j];
                    }
                }
            }
            return leads;
        }

        private boolean[] brokenOnes() {
            boolean[][] leads = chains();
            boolean[] broken = new boolean[16];
            for (int i = 0; i < 16; i++) {
                for (int j = 0; j < 16; j++) {
                    broken[i] |= leads[j][j] && (i == j || leads[i][j]);
                }
            }
            return broken;
        }

        private int[] allValues() {
            boolean[] broken = brokenOnes();
            Integer[] known = new Integer[16];
            int[] values = new int[16];
            for (int i = 0; i < 16; i++) {
                values[i] = broken[i] ? 0 : valueOf(i, known);
            }
            return values;
        }

        private int valueOf(int cell, Integer[] known) {
            if (known[cell] == null) {
                known[cell] = cells[cell].formula() ? made(cell, known) : cells[cell].number();
            }
            return known[cell];
        }

        private int made(int cell, Integer[] known) {
            List<Integer> read = new ArrayList<>();
            for (int j = 0; j < 16; j++) {
                if (cells[cell].reads(j)) {
                    read.add(valueOf(j, known));
                }
            }
            int made = switch (cells[cell].operation()) {
                case 0 -> read.stream().reduce(0, (p, q) -> p + q);
                case 1 -> read.stream().reduce(Math::max).orElseThrow();
                case 2 -> read.stream().reduce(Math::min).orElseThrow();
                default -> (int) read.stream().filter(v -> v > 0).count();
            };
            return made + cells[cell].number();
        }

        private void set(int cell, Content content) {
            boolean[] brokenBefore = brokenOnes();
            int[] valuesBefore = allValues();
            cells[cell] = content;
            boolean[] brokenAfter = brokenOnes();
            int[] valuesAfter = allValues();
            touched = 0;
            for (int i = 0; i < 16; i++) {
                boolean bothBroken = brokenBefore[i] && brokenAfter[i];
                boolean differs = brokenBefore[i] != brokenAfter[i] || valuesBefore[i] != valuesAfter[i];
                touched |= differs && !bothBroken ? 1 << i : 0;
            }
        }

        private long change(int cell, Content content) {
            if (row.size() == 8) {
                row.remove(0);
            }
            row.add(new Change(cell, cells[cell]));
            set(cell, content);
            return 1;
        }

        long put(int cell, int v) {
            return isCell(cell) ? change(cell, new Content(false, 0, 0, 0, v)) : 0;
        }

        long formula(int cell, int operation, int a, int b) {
            boolean right = isCell(cell) && isCell(a) && isCell(b) && operation >= 0 && operation <= 3;
            return right ? change(cell, new Content(true, operation, a, b, 0)) : 0;
        }

        long offset(int cell, int v) {
            if (!isCell(cell) || !cells[cell].formula()) {
                return 0;
            }
            Content c = cells[cell];
            return change(cell, new Content(true, c.operation(), c.a(), c.b(), v));
        }

        long undo() {
            if (row.isEmpty()) {
                return -1;
            }
            Change last = row.remove(row.size() - 1);
            set(last.cell(), last.before());
            return last.cell();
        }

        long value(int cell) {
            return isCell(cell) ? allValues()[cell] : 0;
        }

        long broken(int cell) {
            return isCell(cell) && brokenOnes()[cell] ? 1 : 0;
        }

        long brokenCells() {
            boolean[] broken = brokenOnes();
            long set = 0;
            for (int i = 0; i < 16; i++) {
                set |= broken[i] ? 1L << i : 0;
            }
            return set;
        }

        long readers(int cell) {
            long set = 0;
            for (int i = 0; i < 16; i++) {
                set |= isCell(cell) && cells[i].reads(cell) ? 1L << i : 0;
            }
            return set;
        }

        long dependents(int cell) {
            boolean[][] leads = chains();
            long set = 0;
            for (int i = 0; i < 16; i++) {
                set |= isCell(cell) && leads[i][cell] ? 1L << i : 0;
            }
            return set;
        }

        long total(int a, int b) {
            int[] values = allValues();
            int sum = 0;
            for (int i = 0; i < 16; i++) {
                sum += isCell(a) && isCell(b) && within(i, a, b) ? values[i] : 0;
            }
            return sum;
        }

        long most(int a, int b) {
            int[] values = allValues();
            boolean[] broken = brokenOnes();
            int most = Integer.MIN_VALUE;
            for (int i = 0; i < 16; i++) {
                if (isCell(a) && isCell(b) && within(i, a, b) && !broken[i]) {
                    most = Math.max(most, values[i]);
                }
            }
            return most;
        }
    }

    private static long state;
    private static int wrong = 0;

    /** A number 0 .. bound - 1 from a fixed row of numbers. */
    private static int next(int bound) {
        state = state * 6364136223846793005L + 1442695040888963407L;
        return (int) ((state >>> 33) % bound);
    }

    private static int nextCell() {
        return next(40) == 0 ? WRONG_CELLS[next(WRONG_CELLS.length)] : next(16);
    }

    private static int nextNumber() {
        return next(8) == 0 ? EDGE_NUMBERS[next(EDGE_NUMBERS.length)] : next(21) - 10;
    }

    private static int nextOperation() {
        return next(40) == 0 ? next(2) * 5 - 1 : next(4);
    }

    /** In a run of chains the next cell, since chains seldom grow long by chance. */
    private static int nextSource(int cell, int shape) {
        return shape == CHAINS && next(40) != 0 ? cell + 1 & 15 : nextCell();
    }

    /** The other corner: in some runs a near one, since wide rectangles break most of the sheet. */
    private static int nextCorner(int a, int shape) {
        if (!isCell(a) || shape == 0 || next(40) == 0) {
            return nextCell();
        }
        int reach = shape == CHAINS ? 0 : shape;
        int r = Math.min(3, Math.max(0, a / 4 + next(2 * reach + 1) - reach));
        int c = Math.min(3, Math.max(0, a % 4 + next(2 * reach + 1) - reach));
        return 4 * r + c;
    }

    private static void due(int run, int call, String name, long got, long want) {
        if (got != want) {
            wrong++;
            if (wrong <= 50) {
                System.out.println("run " + run + ", call " + call + ": " + name + " answered " + got + ", due is " + want);
            }
        }
    }

    private static long number(boolean answer) {
        return answer ? 1 : 0;
    }

    /** In a run of chains formulas take the place of most puts, since a constant ends a chain. */
    private static int nextChange(int shape) {
        int change = next(8);
        return shape == CHAINS && change < 2 ? 3 : change;
    }

    private static void change(int run, int call, BlockSheet x, Model m, int shape) {
        int cell = nextCell();
        int v = nextNumber();
        switch (nextChange(shape)) {
            case 0, 1, 2 -> due(run, call, "put(" + cell + ", " + v + ")", number(x.put(cell, v)), m.put(cell, v));
            case 3, 4 -> {
                int operation = nextOperation();
                int a = nextSource(cell, shape);
                int b = nextCorner(a, shape);
                String name = "formula(" + cell + ", " + operation + ", " + a + ", " + b + ")";
                due(run, call, name, number(x.formula(cell, operation, a, b)), m.formula(cell, operation, a, b));
            }
            case 5 -> due(run, call, "offset(" + cell + ", " + v + ")", number(x.offset(cell, v)), m.offset(cell, v));
            default -> due(run, call, "undo()", x.undo(), m.undo());
        }
    }

    private static void question(int run, int call, BlockSheet x, Model m, int shape) {
        int a = nextCell();
        int b = shape == CHAINS ? nextCell() : nextCorner(a, shape);
        switch (next(8)) {
            case 0 -> due(run, call, "value(" + a + ")", x.value(a), m.value(a));
            case 1 -> due(run, call, "broken(" + a + ")", number(x.broken(a)), m.broken(a));
            case 2 -> due(run, call, "brokenCells()", x.brokenCells(), m.brokenCells());
            case 3 -> due(run, call, "touched()", x.touched(), m.touched);
            case 4 -> due(run, call, "readers(" + a + ")", x.readers(a), m.readers(a));
            case 5 -> due(run, call, "dependents(" + a + ")", x.dependents(a), m.dependents(a));
            case 6 -> due(run, call, "total(" + a + ", " + b + ")", x.total(a, b), m.total(a, b));
            default -> due(run, call, "most(" + a + ", " + b + ")", x.most(a, b), m.most(a, b));
        }
    }

    public static void main(String[] args) {
        for (int run = 0; run < RUNS; run++) {
            state = run;
            BlockSheet x = new BlockSheet();
            Model m = new Model();
            int shape = run % SHAPES;
            for (int call = 1; call <= CALLS; call++) {
                if (next(2) == 0) {
                    change(run, call, x, m, shape);
                } else {
                    question(run, call, x, m, shape);
                }
            }
        }
        System.out.println(wrong == 0 ? "all answers are as due" : wrong + " answers are not as due");
        if (wrong != 0) {
            System.exit(1);
        }
    }
}
