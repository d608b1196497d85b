/**
 * What each promise does with ordinary inputs, and the document's constants. The
 * boundaries have tests of their own, CallBoundaryTest and RunBoundaryTest.
 */
public final class PromiseTest {
    private static final int MIN = Integer.MIN_VALUE;
    private static final int MAX = Integer.MAX_VALUE;
    private static final int BAD = RangeGuard.BAD_ARG;
    private static final int DONE = RangeGuard.DONE;
    private static final int REFUSED = RangeGuard.REFUSED;
    private static final int OUTSIDE = RangeGuard.OUTSIDE;
    private static final int TIRED = RangeGuard.TIRED;
    private static final int[] NO_VARIABLES = {MIN, -1, 4, 5, MAX};
    private static final int[] NO_NUMBERS = {MIN, -101, 101, MAX};
    private static final int[] NO_CELLS = {MIN, -1, 8, 9, MAX};

    private static final Check CHECK = new Check();

    public static void main(String[] args) {
        constants();
        newObject();
        range();
        rangeBinds();
        constant();
        plus();
        sum();
        mask();
        load();
        store();
        storeAnyNumberThere();
        less();
        jump();
        size();
        clear();
        setCell();
        cell();
        variable();
        run();
        ending();
        place();
        worked();
        digest();
        CHECK.end();
    }

    private static void due(String what, long got, long want) {
        CHECK.due(what, got, want);
    }

    private static RangeGuard fullProgram() {
        RangeGuard g = new RangeGuard();
        for (int n = 0; n < 14; n++) {
            g.constant(0, n);
        }
        return g;
    }

    private static void constants() {
        due("BAD_ARG", RangeGuard.BAD_ARG, -1);
        due("FULL", RangeGuard.FULL, -2);
        due("NO_RUN", RangeGuard.NO_RUN, 0);
        due("DONE", RangeGuard.DONE, 1);
        due("REFUSED", RangeGuard.REFUSED, 2);
        due("OUTSIDE", RangeGuard.OUTSIDE, 3);
        due("TIRED", RangeGuard.TIRED, 4);
    }

    private static void newObject() {
        RangeGuard g = new RangeGuard();
        due("new: size", g.size(), 0);
        CHECK.lastRun("new", g, RangeGuard.NO_RUN, -1, 0);
        due("new: digest", g.digest(), 0);
        CHECK.variables("new", g, 0, 0, 0, 0);
        CHECK.cells("new", g, 0, 0, 0, 0, 0, 0, 0, 0);
        for (int x = 0; x < 4; x++) {
            g.clear();
            g.constant(x, 100);
            g.constant(x, -100);
            CHECK.run("new: range of " + x, g, DONE, -1, 2);
            g.clear();
            g.constant(x, 100);
            g.plus(x, x, 1);
            CHECK.run("new: range of " + x + " ends at 100", g, REFUSED, 1, 2);
            g.clear();
            g.constant(x, -100);
            g.plus(x, x, -1);
            CHECK.run("new: range of " + x + " ends at -100", g, REFUSED, 1, 2);
        }
        RangeGuard other = new RangeGuard();
        due("objects are apart: size", other.size(), 0);
        CHECK.variables("objects are apart", other, 0, 0, 0, 0);
    }

    private static void range() {
        RangeGuard g = new RangeGuard();
        due("range ordinary", g.range(0, 2, 9), 0);
        due("range widest", g.range(1, -100, 100), 0);
        due("range one number", g.range(2, 7, 7), 0);
        due("range at 100", g.range(3, 100, 100), 0);
        due("range at -100", g.range(3, -100, -100), 0);
        CHECK.variables("range keeps what variables hold", g, 0, 0, 0, 0);
        g.run();
        CHECK.variables("the run starts in the ranges", g, 2, 0, 7, -100);
        g.range(0, 50, 60);
        CHECK.variables("range keeps what a run left", g, 2, 0, 7, -100);
        due("range keeps the digest", g.digest(), 2 + 21 - 400);
        CHECK.lastRun("range keeps the last run", g, DONE, -1, 0);
        g.run();
        CHECK.variables("the next run has the new range", g, 50, 0, 7, -100);
    }

    private static void rangeBinds() {
        for (int x = 0; x < 4; x++) {
            RangeGuard g = new RangeGuard();
            g.range(x, -3, 6);
            g.constant(x, -3);
            g.constant(x, 6);
            g.constant((x + 1) % 4, 7);
            CHECK.run("both ends are in the range", g, DONE, -1, 3);
            g.constant(x, 7);
            CHECK.run("hi + 1 is not in the range", g, REFUSED, 3, 4);
            due("refused: variable", g.variable(x), 6);
            g.clear();
            g.constant(x, -4);
            CHECK.run("lo - 1 is not in the range", g, REFUSED, 0, 1);
            due("refused: variable at its start", g.variable(x), 0);
        }
    }

    private static void constant() {
        for (int x = 0; x < 4; x++) {
            for (int k : new int[] {-100, -1, 0, 1, 42, 100}) {
                RangeGuard g = new RangeGuard();
                due("constant " + k, g.constant(x, k), 0);
                due("constant appended: holds until a run", g.variable(x), 0);
                CHECK.run("constant " + k, g, DONE, -1, 1);
                due("constant " + k + ": variable", g.variable(x), k);
                due("constant " + k + ": digest", g.digest(), (x + 1) * k);
            }
        }
    }

    private static void plus() {
        for (int x = 0; x < 4; x++) {
            for (int y = 0; y < 4; y++) {
                RangeGuard g = new RangeGuard();
                g.constant(y, 30);
                due("plus", g.plus(x, y, -70), 1);
                CHECK.run("plus", g, DONE, -1, 2);
                due("plus: x", g.variable(x), -40);
                due("plus: y", g.variable(y), x == y ? -40 : 30);
            }
        }
        RangeGuard g = new RangeGuard();
        due("plus -100", g.plus(0, 0, -100), 0);
        due("plus 100", g.plus(0, 0, 100), 1);
        due("plus 100 again", g.plus(0, 0, 100), 2);
        due("plus past 100", g.plus(1, 0, 1), 3);
        CHECK.run("plus past 100", g, REFUSED, 3, 4);
        CHECK.variables("plus past 100", g, 100, 0, 0, 0);
        g.clear();
        g.plus(2, 2, -100);
        g.plus(3, 2, -100);
        CHECK.run("plus past -100", g, REFUSED, 1, 2);
        CHECK.variables("plus past -100", g, 0, 0, -100, 0);
    }

    private static void sum() {
        // No two pairs of these have the same sum.
        int[] powers = {1, 3, 9, 27};
        for (int x = 0; x < 4; x++) {
            for (int y = 0; y < 4; y++) {
                for (int z = 0; z < 4; z++) {
                    RangeGuard g = new RangeGuard();
                    for (int v = 0; v < 4; v++) {
                        g.constant(v, powers[v]);
                    }
                    due("sum", g.sum(x, y, z), 4);
                    CHECK.run("sum", g, DONE, -1, 5);
                    for (int v = 0; v < 4; v++) {
                        int held = v == x ? powers[y] + powers[z] : powers[v];
                        due("sum " + x + y + z + ": variable " + v, g.variable(v), held);
                    }
                }
            }
        }
        RangeGuard g = new RangeGuard();
        g.constant(0, 50);
        g.sum(1, 0, 0);
        g.sum(1, 1, 0);
        CHECK.run("sum past 100", g, REFUSED, 2, 3);
        CHECK.variables("sum past 100", g, 50, 100, 0, 0);
        g.clear();
        g.constant(0, -100);
        g.sum(2, 0, 0);
        CHECK.run("sum past -100", g, REFUSED, 1, 2);
        CHECK.variables("sum past -100", g, -100, 0, 0, 0);
    }

    private static void mask() {
        int[][] rows = {
            {100, 63, 36}, {100, 0, 0}, {0, 63, 0}, {13, 7, 5}, {-1, 63, 63}, {-2, 13, 12},
            {-100, 63, 28}, {-64, 63, 0}, {64, 63, 0}, {63, 63, 63}, {50, 32, 32}, {-5, 1, 1},
        };
        for (int[] row : rows) {
            for (int x = 0; x < 4; x++) {
                int y = (x + 3) % 4;
                RangeGuard g = new RangeGuard();
                g.constant(y, row[0]);
                due("mask", g.mask(x, y, row[1]), 1);
                CHECK.run("mask", g, DONE, -1, 2);
                due("mask " + row[0] + " & " + row[1], g.variable(x), row[2]);
                due("mask keeps y", g.variable(y), row[0]);
            }
        }
        RangeGuard g = new RangeGuard();
        g.range(1, 0, 62);
        g.constant(0, -1);
        g.mask(1, 0, 62);
        g.mask(1, 0, 63);
        CHECK.run("mask out of the range", g, REFUSED, 2, 3);
        due("mask out of the range: x", g.variable(1), 62);
        g.clear();
        g.constant(2, 44);
        g.mask(2, 2, 40);
        CHECK.run("mask of itself", g, DONE, -1, 2);
        due("mask of itself", g.variable(2), 40);
    }

    private static RangeGuard numberedCells() {
        RangeGuard g = new RangeGuard();
        for (int i = 0; i < 8; i++) {
            g.setCell(i, 10 * i + 3);
        }
        return g;
    }

    private static void load() {
        for (int k = -8; k <= 8; k++) {
            for (int y = -10; y <= 16; y++) {
                RangeGuard g = numberedCells();
                g.constant(1, y);
                due("load", g.load(2, 1, k), 1);
                int i = y + k;
                boolean inside = i >= 0 && i <= 7;
                CHECK.run("load " + y + " + " + k, g, inside ? DONE : OUTSIDE, inside ? -1 : 1, 2);
                CHECK.variables("load " + y + " + " + k, g, 0, y, inside ? 10 * i + 3 : 0, 0);
                CHECK.cells("load", g, 3, 13, 23, 33, 43, 53, 63, 73);
            }
        }
        RangeGuard g = numberedCells();
        g.range(3, -100, 72);
        g.constant(0, 6);
        g.load(3, 0, 0);
        g.load(3, 0, 1);
        CHECK.run("load out of the range", g, REFUSED, 2, 3);
        CHECK.variables("load out of the range", g, 6, 0, 0, 63);
        g.range(3, 0, 0);
        g.clear();
        g.load(3, 0, 8);
        CHECK.run("load outside comes before the range", g, OUTSIDE, 0, 1);
        g.clear();
        g.setCell(0, 4);
        g.load(0, 0, 0);
        g.load(0, 0, 0);
        CHECK.run("load by itself", g, DONE, -1, 2);
        due("load by itself", g.variable(0), 43);
        g.clear();
        g.constant(1, 100);
        g.load(0, 1, 8);
        CHECK.run("load far above", g, OUTSIDE, 1, 2);
        g.clear();
        g.constant(1, -100);
        g.load(0, 1, -8);
        CHECK.run("load far below", g, OUTSIDE, 1, 2);
    }

    private static void store() {
        for (int k = -8; k <= 8; k++) {
            for (int y = -10; y <= 16; y++) {
                RangeGuard g = numberedCells();
                g.constant(1, y);
                g.constant(3, -77);
                due("store", g.store(3, 1, k), 2);
                int i = y + k;
                boolean inside = i >= 0 && i <= 7;
                CHECK.run("store " + y + " + " + k, g, inside ? DONE : OUTSIDE, inside ? -1 : 2, 3);
                CHECK.variables("store " + y + " + " + k, g, 0, y, 0, -77);
                for (int c = 0; c < 8; c++) {
                    due("store " + y + " + " + k + ": cell " + c, g.cell(c), c == i ? -77 : 10 * c + 3);
                }
            }
        }
        RangeGuard g = new RangeGuard();
        g.constant(2, 5);
        g.store(2, 2, 2);
        CHECK.run("store of its own index", g, DONE, -1, 2);
        CHECK.cells("store of its own index", g, 0, 0, 0, 0, 0, 0, 0, 5);
    }

    /** A cell takes every number from -100 to 100, whatever the ranges of other variables. */
    private static void storeAnyNumberThere() {
        for (int n : new int[] {-100, -1, 0, 100}) {
            RangeGuard g = new RangeGuard();
            g.setCell(0, 9);
            g.range(1, 0, 0);
            g.range(2, 0, 0);
            g.range(3, 0, 0);
            g.constant(0, n);
            g.store(0, 1, 0);
            CHECK.run("store " + n, g, DONE, -1, 2);
            due("store " + n + ": cell", g.cell(0), n);
        }
    }

    private static void less() {
        int[][] rows = {{3, 4, 1}, {4, 4, 0}, {5, 4, 0}, {-100, 100, 1}, {100, -100, 0}, {-2, -1, 1}};
        for (int[] row : rows) {
            for (int x = 0; x < 4; x++) {
                int y = (x + 1) % 4;
                RangeGuard g = new RangeGuard();
                g.constant(x, row[0]);
                g.constant(y, row[1]);
                due("less", g.less(x, y, 4), 2);
                g.constant((x + 2) % 4, 1);
                g.constant((x + 3) % 4, 1);
                String what = "less " + row[0] + " " + row[1];
                CHECK.run(what, g, DONE, -1, row[2] == 1 ? 4 : 5);
                due(what + ": goes on at the next", g.variable((x + 2) % 4), 1 - row[2]);
                due(what + ": the target", g.variable((x + 3) % 4), 1);
                due(what + ": x stays", g.variable(x), row[0]);
                due(what + ": y stays", g.variable(y), row[1]);
            }
        }
        RangeGuard g = new RangeGuard();
        g.range(0, 0, 4);
        g.range(1, 4, 4);
        g.plus(0, 0, 1);
        due("less back", g.less(0, 1, 0), 1);
        CHECK.run("less back", g, DONE, -1, 8);
        due("less back: x", g.variable(0), 4);
        due("less of one variable", g.less(2, 2, 0), 2);
        CHECK.run("less of one variable", g, DONE, -1, 9);
        g.clear();
        due("less to 14", g.less(0, 1, 14), 0);
        g.constant(0, 1);
        CHECK.run("less past the program", g, DONE, -1, 1);
    }

    private static void jump() {
        RangeGuard g = new RangeGuard();
        due("jump over", g.jump(2), 0);
        g.constant(0, 1);
        g.constant(1, 1);
        CHECK.run("jump over", g, DONE, -1, 2);
        CHECK.variables("jump over", g, 0, 1, 0, 0);
        g.clear();
        g.jump(3);
        g.constant(0, 8);
        due("jump past the end", g.jump(14), 2);
        due("jump back", g.jump(1), 3);
        CHECK.run("jump back", g, DONE, -1, 4);
        due("jump back", g.variable(0), 8);
        for (int t = 1; t <= 14; t++) {
            RangeGuard past = new RangeGuard();
            due("jump to " + t, past.jump(t), 0);
            CHECK.run("jump to " + t, past, DONE, -1, 1);
        }
        // The target is looked up at the run, not when the jump is appended.
        RangeGuard late = new RangeGuard();
        late.jump(2);
        CHECK.run("nothing at the target yet", late, DONE, -1, 1);
        late.constant(0, 1);
        late.constant(1, 1);
        CHECK.run("something at the target", late, DONE, -1, 2);
        CHECK.variables("something at the target", late, 0, 1, 0, 0);
    }

    private static void size() {
        RangeGuard g = new RangeGuard();
        due("size 0", g.size(), 0);
        g.constant(4, 0);
        due("size after a refused call", g.size(), 0);
        g.constant(0, 1);
        g.jump(14);
        due("size 2", g.size(), 2);
        g.run();
        due("size after a run", g.size(), 2);
        due("size when full", fullProgram().size(), 14);
    }

    private static void clear() {
        RangeGuard g = new RangeGuard();
        g.clear();
        due("clear nothing", g.size(), 0);
        g.range(1, 4, 8);
        g.setCell(3, 21);
        g.constant(0, 6);
        g.constant(1, 9);
        g.run();
        g.clear();
        due("clear: size", g.size(), 0);
        CHECK.lastRun("clear keeps the last run", g, REFUSED, 1, 2);
        CHECK.variables("clear keeps variables", g, 6, 4, 0, 0);
        due("clear keeps cells", g.cell(3), 21);
        due("clear keeps the digest", g.digest(), 6 + 8 + 8 * 21);
        CHECK.run("clear: the run of no instruction", g, DONE, -1, 0);
        CHECK.variables("clear keeps ranges", g, 0, 4, 0, 0);
        due("clear: numbers start again", g.constant(2, 5), 0);
        CHECK.run("clear: nothing old is left", g, DONE, -1, 1);
        CHECK.variables("clear: nothing old is left", g, 0, 4, 5, 0);
    }

    private static void setCell() {
        RangeGuard g = new RangeGuard();
        for (int i = 0; i < 8; i++) {
            due("setCell from 0", g.setCell(i, i - 100), 0);
            due("setCell answers what it held", g.setCell(i, 100 - i), i - 100);
        }
        CHECK.cells("setCell", g, 100, 99, 98, 97, 96, 95, 94, 93);
        for (int i : NO_CELLS) {
            due("setCell " + i, g.setCell(i, 1), BAD);
        }
        for (int v : NO_NUMBERS) {
            due("setCell v " + v, g.setCell(2, v), BAD);
            due("setCell both wrong " + v, g.setCell(8, v), BAD);
        }
        CHECK.cells("setCell refused", g, 100, 99, 98, 97, 96, 95, 94, 93);
        CHECK.variables("setCell keeps variables", g, 0, 0, 0, 0);
        CHECK.lastRun("setCell is no run", g, RangeGuard.NO_RUN, -1, 0);
        due("setCell -100", g.setCell(5, -100), 95);
        due("setCell held -100", g.setCell(5, 0), -100);
        due("setCell held -1", g.setCell(6, -1), 94);
        due("setCell answers -1 for what it held", g.setCell(6, 8), -1);
        due("setCell after -1", g.cell(6), 8);
    }

    private static void cell() {
        RangeGuard g = numberedCells();
        for (int i = 0; i < 8; i++) {
            due("cell " + i, g.cell(i), 10 * i + 3);
        }
        for (int i : NO_CELLS) {
            due("cell " + i, g.cell(i), 0);
        }
    }

    private static void variable() {
        RangeGuard g = new RangeGuard();
        for (int x = 0; x < 4; x++) {
            g.range(x, 11 * x + 5, 100);
        }
        CHECK.variables("variable before a run", g, 0, 0, 0, 0);
        g.run();
        CHECK.variables("variable after a run", g, 5, 16, 27, 38);
        for (int x : NO_VARIABLES) {
            due("variable " + x, g.variable(x), 0);
        }
    }

    private static void run() {
        RangeGuard g = new RangeGuard();
        CHECK.run("no instruction", g, DONE, -1, 0);
        g.plus(0, 0, 7);
        g.store(0, 1, 0);
        g.plus(1, 1, 3);
        g.sum(2, 0, 1);
        for (int n = 0; n < 3; n++) {
            CHECK.run("every run starts anew", g, DONE, -1, 4);
            CHECK.variables("every run starts anew", g, 7, 3, 10, 0);
        }
        g.constant(3, 1);
        g.range(3, 2, 3);
        CHECK.run("refused", g, REFUSED, 4, 5);
        CHECK.variables("refused", g, 7, 3, 10, 2);
        g.range(0, -1, 6);
        CHECK.run("refused at 0", g, REFUSED, 0, 1);
        CHECK.variables("refused at 0", g, 0, 0, 0, 2);
        g.clear();
        CHECK.run("a run without instruction sets variables", g, DONE, -1, 0);
        CHECK.variables("a run without instruction sets variables", g, 0, 0, 0, 2);
    }

    private static void ending() {
        RangeGuard g = new RangeGuard();
        g.constant(0, 1);
        due("ending of none", g.ending(), RangeGuard.NO_RUN);
        g.run();
        due("ending DONE", g.ending(), DONE);
        g.range(0, 0, 0);
        due("ending stays", g.ending(), DONE);
        g.run();
        due("ending REFUSED", g.ending(), REFUSED);
        g.clear();
        g.load(0, 0, -1);
        due("ending stays", g.ending(), REFUSED);
        g.run();
        due("ending OUTSIDE", g.ending(), OUTSIDE);
        g.clear();
        g.jump(0);
        due("ending stays", g.ending(), OUTSIDE);
        g.run();
        due("ending TIRED", g.ending(), TIRED);
        g.clear();
        g.run();
        due("ending DONE again", g.ending(), DONE);
    }

    private static void place() {
        for (int n = 0; n < 14; n++) {
            RangeGuard g = new RangeGuard();
            for (int before = 0; before < n; before++) {
                g.constant(0, before);
            }
            g.load(1, 2, 8);
            due("place before the run", g.place(), -1);
            CHECK.run("place " + n, g, OUTSIDE, n, n + 1);
            g.clear();
            due("place stays", g.place(), n);
            CHECK.run("place of a run that ends DONE", g, DONE, -1, 0);
        }
        RangeGuard g = new RangeGuard();
        g.range(3, 0, 4);
        g.jump(2);
        g.constant(3, 5);
        g.jump(1);
        CHECK.run("place is a number, not a count", g, REFUSED, 1, 3);
        g.clear();
        g.jump(0);
        CHECK.run("place of a run that ends TIRED", g, TIRED, -1, 120);
    }

    private static void worked() {
        RangeGuard g = new RangeGuard();
        g.constant(0, 1);
        due("worked before the run", g.worked(), 0);
        g.run();
        due("worked 1", g.worked(), 1);
        g.constant(0, 2);
        g.clear();
        due("worked stays", g.worked(), 1);
        g.run();
        due("worked is of the last run", g.worked(), 0);
    }

    private static void digest() {
        for (int x = 0; x < 4; x++) {
            RangeGuard g = new RangeGuard();
            g.constant(x, -9);
            due("digest before the run", g.digest(), 0);
            g.run();
            due("digest of variable " + x, g.digest(), -9 * (x + 1));
        }
        for (int i = 0; i < 8; i++) {
            RangeGuard g = new RangeGuard();
            g.setCell(i, 31);
            due("digest of cell " + i, g.digest(), 31 * (i + 5));
        }
        for (int n : new int[] {-100, 100}) {
            RangeGuard g = new RangeGuard();
            for (int i = 0; i < 8; i++) {
                g.setCell(i, n);
            }
            for (int x = 0; x < 4; x++) {
                g.constant(x, n);
            }
            g.run();
            due("digest of all", g.digest(), n * 78);
        }
    }
}
