/**
 * The sentences of 'Terms' that name a boundary, each with a test of its own:
 * ranges, indices, targets and the 120 instructions that a run may work off.
 */
public final class RunBoundaryTest {
    private static final int DONE = RangeGuard.DONE;
    private static final int REFUSED = RangeGuard.REFUSED;
    private static final int OUTSIDE = RangeGuard.OUTSIDE;
    private static final int TIRED = RangeGuard.TIRED;
    private static final int[][] RANGES = {
        {-100, 100}, {-100, -100}, {100, 100}, {-99, 99}, {0, 0}, {-1, 1}, {-3, 6}, {5, 5}, {-7, -7},
        {1, 100}, {-100, -1}, {0, 63}, {1, 62}, {2, 40},
    };

    // A mask gives 0 to 63 alone, so it meets the fewest ends of these ranges.
    private static final int LEAST_MET = 36;

    private static final Check CHECK = new Check();

    /** Appends what makes x get n, last of all the instruction that gives it; false if it can't be done. */
    private interface Giver {
        boolean append(RangeGuard g, int x, int n);
    }

    public static void main(String[] args) {
        CHECK.sentence("an object is used for at most 512 calls", RunBoundaryTest::lastCall);
        CHECK.sentence("constant: x gets k, or REFUSED if it is not lo to hi", () -> gets(RunBoundaryTest::byConstant));
        CHECK.sentence("plus: x gets y + k, or REFUSED if it is not lo to hi", () -> gets(RunBoundaryTest::byPlus));
        CHECK.sentence("plus x x k", () -> gets(RunBoundaryTest::byPlusOfItself));
        CHECK.sentence("sum: x gets y + z, or REFUSED if it is not lo to hi", () -> gets(RunBoundaryTest::bySum));
        CHECK.sentence("mask: x gets y & k, or REFUSED if it is not lo to hi", () -> gets(RunBoundaryTest::byMask));
        CHECK.sentence("load: x gets the number in the cell, or REFUSED if it is not lo to hi",
            () -> gets(RunBoundaryTest::byLoad));
        CHECK.sentence("sums far from every range", RunBoundaryTest::farSums);
        CHECK.sentence("y & k of numbers below 0", RunBoundaryTest::masksOfNegatives);
        CHECK.sentence("load: OUTSIDE if y + k is not 0 to 7", RunBoundaryTest::loadIndex);
        CHECK.sentence("load: OUTSIDE is looked at before the range", RunBoundaryTest::loadOutsideFirst);
        CHECK.sentence("store: OUTSIDE if y + k is not 0 to 7", RunBoundaryTest::storeIndex);
        CHECK.sentence("cells hold -100 to 100", RunBoundaryTest::storedNumbers);
        CHECK.sentence("less: at t if x < y, else at the next one", RunBoundaryTest::lessOrNot);
        CHECK.sentence("less: t from 0 to 14", RunBoundaryTest::lessTargets);
        CHECK.sentence("less: the next one after the last", RunBoundaryTest::lessAtTheEnd);
        CHECK.sentence("jump: t from 0 to 14", RunBoundaryTest::jumpTargets);
        CHECK.sentence("jump: from the last of 14 instructions", RunBoundaryTest::jumpFromTheLast);
        CHECK.sentence("a run sets every variable to the number of its range nearest to 0", RunBoundaryTest::starts);
        CHECK.sentence("a run goes from instruction 0 on: an empty program", RunBoundaryTest::emptyProgram);
        CHECK.sentence("DONE at a number that no instruction has: after the last", RunBoundaryTest::doneAfterTheLast);
        CHECK.sentence("DONE when 119 or 120 were worked off and there is no instruction", RunBoundaryTest::doneAt120);
        CHECK.sentence("TIRED when 120 were worked off and there is an instruction", RunBoundaryTest::tiredAt120);
        CHECK.sentence("the 120th instruction is worked off, the 121st is not", RunBoundaryTest::effectAt120);
        CHECK.sentence("TIRED in a full program", RunBoundaryTest::tiredInFullProgram);
        CHECK.sentence("REFUSED counts as worked off, at every place", RunBoundaryTest::refusedPlaces);
        CHECK.sentence("OUTSIDE counts as worked off, at every place", RunBoundaryTest::outsidePlaces);
        CHECK.sentence("REFUSED and OUTSIDE at the 120th instruction", RunBoundaryTest::endsAt120);
        CHECK.sentence("REFUSED changes nothing", RunBoundaryTest::refusedChangesNothing);
        CHECK.sentence("OUTSIDE changes nothing", RunBoundaryTest::outsideChangesNothing);
        CHECK.sentence("cells keep what runs leave in them, however these end", RunBoundaryTest::cellsStay);
        CHECK.end();
    }

    private static void lastCall() {
        RangeGuard g = new RangeGuard();
        g.load(0, 1, 0);
        g.plus(0, 0, 1);
        g.mask(0, 0, 63);
        g.store(0, 1, 0);
        for (int call = 5; call <= 511; call++) {
            CHECK.due("call " + call, g.run(), DONE);
        }
        CHECK.due("call 512: 507 runs, counted from 0 to 63", g.cell(0), 59);
    }

    private static boolean isNumber(int n) {
        return n >= -100 && n <= 100;
    }

    private static boolean byConstant(RangeGuard g, int x, int n) {
        return isNumber(n) && g.constant(x, n) >= 0;
    }

    private static boolean byPlus(RangeGuard g, int x, int n) {
        int y = (x + 1) % 4;
        g.constant(y, n / 2);
        return g.plus(x, y, n - n / 2) >= 0;
    }

    private static boolean byPlusOfItself(RangeGuard g, int x, int n) {
        g.run();
        int start = g.variable(x);
        if (isNumber(n - start)) {
            return g.plus(x, x, n - start) >= 0;
        }
        // From 0 to 101 or -101 it is too far for one step.
        int step = n > start ? 100 : -100;
        g.plus(x, x, step);
        return g.plus(x, x, n - start - step) >= 0;
    }

    private static boolean bySum(RangeGuard g, int x, int n) {
        int y = (x + 1) % 4;
        int z = (x + 3) % 4;
        g.constant(y, n / 2);
        g.constant(z, n - n / 2);
        return g.sum(x, y, z) >= 0;
    }

    private static boolean byMask(RangeGuard g, int x, int n) {
        int y = (x + 2) % 4;
        g.constant(y, -1);
        return n >= 0 && n <= 63 && g.mask(x, y, n) >= 0;
    }

    private static boolean byLoad(RangeGuard g, int x, int n) {
        if (!isNumber(n)) {
            return false;
        }
        g.setCell(5, n);
        return g.load(x, (x + 1) % 4, 5) >= 0;
    }

    /** Each end of each range, and the number before and after, for every variable. */
    private static void gets(Giver giver) {
        int refused = 0;
        int taken = 0;
        for (int[] range : RANGES) {
            int lo = range[0];
            int hi = range[1];
            for (int n : new int[] {lo - 1, lo, hi, hi + 1}) {
                for (int x = 0; x < 4; x++) {
                    RangeGuard g = new RangeGuard();
                    g.range(x, lo, hi);
                    if (!giver.append(g, x, n)) {
                        continue;
                    }
                    boolean in = n >= lo && n <= hi;
                    if (in) {
                        taken++;
                    } else {
                        refused++;
                    }
                    dueGets("variable " + x + " of " + lo + " to " + hi + " gets " + n, g, x, n, in);
                }
            }
        }
        CHECK.due("numbers in the range are many", taken >= LEAST_MET ? 1 : 0, 1);
        CHECK.due("numbers out of the range are many", refused >= LEAST_MET ? 1 : 0, 1);
    }

    private static void dueGets(String what, RangeGuard g, int x, int n, boolean in) {
        int last = g.size() - 1;
        CHECK.run(what, g, in ? DONE : REFUSED, in ? -1 : last, last + 1);
        CHECK.due(what + ": it holds " + n, g.variable(x) == n ? 1 : 0, in ? 1 : 0);
    }

    private static void farSums() {
        for (int sign = -1; sign <= 1; sign += 2) {
            RangeGuard g = new RangeGuard();
            g.constant(0, 100 * sign);
            g.plus(1, 0, 100 * sign);
            CHECK.run("plus to " + 200 * sign, g, REFUSED, 1, 2);
            CHECK.variables("plus to " + 200 * sign, g, 100 * sign, 0, 0, 0);
            g.clear();
            g.constant(0, 100 * sign);
            g.sum(1, 0, 0);
            CHECK.run("sum to " + 200 * sign, g, REFUSED, 1, 2);
            CHECK.variables("sum to " + 200 * sign, g, 100 * sign, 0, 0, 0);
            g.clear();
            g.constant(0, 100 * sign);
            g.plus(0, 0, -100 * sign);
            g.constant(1, 100 * sign);
            g.constant(2, -100 * sign);
            g.sum(3, 1, 2);
            CHECK.run("back to 0", g, DONE, -1, 5);
            CHECK.variables("back to 0", g, 0, 100 * sign, -100 * sign, 0);
        }
    }

    private static void masksOfNegatives() {
        int[][] rows = {
            {-1, 63, 63}, {-1, 0, 0}, {-1, 1, 1}, {-2, 1, 0}, {-2, 63, 62}, {-63, 63, 1}, {-64, 63, 0},
            {-65, 63, 63}, {-100, 63, 28}, {-100, 32, 0}, {-99, 32, 0}, {-99, 29, 29}, {100, 63, 36},
            {64, 63, 0}, {63, 63, 63}, {0, 63, 0},
        };
        for (int[] row : rows) {
            RangeGuard g = new RangeGuard();
            g.constant(1, row[0]);
            g.mask(2, 1, row[1]);
            CHECK.run(row[0] + " & " + row[1], g, DONE, -1, 2);
            CHECK.variables(row[0] + " & " + row[1], g, 0, row[0], row[2], 0);
        }
    }

    private static RangeGuard numberedCells() {
        RangeGuard g = new RangeGuard();
        for (int i = 0; i < 8; i++) {
            g.setCell(i, 90 - i);
        }
        return g;
    }

    private static void loadIndex() {
        for (int k = -8; k <= 8; k++) {
            for (int y = -100; y <= 100; y++) {
                RangeGuard g = numberedCells();
                g.constant(1, y);
                g.load(3, 1, k);
                int i = y + k;
                boolean inside = i >= 0 && i <= 7;
                String what = "load at " + y + " + " + k;
                CHECK.run(what, g, inside ? DONE : OUTSIDE, inside ? -1 : 1, 2);
                CHECK.variables(what, g, 0, y, 0, inside ? 90 - i : 0);
            }
        }
    }

    private static void loadOutsideFirst() {
        for (int k : new int[] {-8, -1, 8}) {
            RangeGuard g = numberedCells();
            g.range(3, 1, 1);
            g.load(3, 0, k);
            CHECK.run("load at " + k, g, OUTSIDE, 0, 1);
            CHECK.variables("load at " + k, g, 0, 0, 0, 1);
        }
        for (int k : new int[] {0, 7}) {
            RangeGuard g = numberedCells();
            g.range(3, 1, 1);
            g.load(3, 0, k);
            CHECK.run("load at " + k, g, REFUSED, 0, 1);
            CHECK.variables("load at " + k, g, 0, 0, 0, 1);
        }
    }

    private static void storeIndex() {
        for (int k = -8; k <= 8; k++) {
            for (int y = -100; y <= 100; y++) {
                RangeGuard g = numberedCells();
                g.constant(2, y);
                g.constant(0, -55);
                g.store(0, 2, k);
                int i = y + k;
                boolean inside = i >= 0 && i <= 7;
                String what = "store at " + y + " + " + k;
                CHECK.run(what, g, inside ? DONE : OUTSIDE, inside ? -1 : 2, 3);
                CHECK.variables(what, g, -55, 0, y, 0);
                for (int c = 0; c < 8; c++) {
                    CHECK.due(what + ": cell " + c, g.cell(c), c == i ? -55 : 90 - c);
                }
            }
        }
    }

    private static void storedNumbers() {
        for (int n : new int[] {-100, -99, -1, 0, 1, 99, 100}) {
            for (int i = 0; i < 8; i++) {
                RangeGuard g = numberedCells();
                g.constant(0, n);
                g.store(0, 1, i);
                g.load(3, 1, i);
                CHECK.run("store " + n + " in " + i, g, DONE, -1, 3);
                CHECK.due("cell " + i, g.cell(i), n);
                CHECK.variables("store " + n + " in " + i, g, n, 0, 0, n);
            }
        }
    }

    private static void lessOrNot() {
        int[] numbers = {-100, -99, -1, 0, 1, 99, 100};
        for (int a : numbers) {
            for (int b : numbers) {
                RangeGuard g = new RangeGuard();
                g.constant(2, a);
                g.constant(1, b);
                g.less(2, 1, 4);
                g.constant(0, 9);
                g.constant(3, 9);
                boolean jumps = a < b;
                CHECK.run(a + " less " + b, g, DONE, -1, jumps ? 4 : 5);
                CHECK.variables(a + " less " + b, g, jumps ? 0 : 9, b, a, 9);
            }
        }
        for (int x = 0; x < 4; x++) {
            RangeGuard g = new RangeGuard();
            g.less(x, x, 2);
            g.constant(x, 9);
            CHECK.run("less of one variable", g, DONE, -1, 2);
            CHECK.due("less of one variable", g.variable(x), 9);
        }
    }

    /** Instructions that only tell, by variable 3, how far a run got. */
    private static void fill(RangeGuard g, int size) {
        for (int n = g.size(); n < size; n++) {
            g.constant(3, 50 + n);
        }
    }

    /** What is due where instruction 0 goes on at t and only fillers come after it. */
    private static void dueTarget(String what, RangeGuard g, int t) {
        int size = g.size();
        String at = what + " to " + t + " of " + size;
        if (t == 0) {
            CHECK.run(at, g, TIRED, -1, 120);
        } else if (t < size) {
            CHECK.run(at, g, DONE, -1, 1 + size - t);
        } else {
            CHECK.run(at, g, DONE, -1, 1);
        }
        boolean filled = t > 0 && t < size;
        CHECK.due(at + ": variable 3", g.variable(3), filled ? 50 + size - 1 : 0);
    }

    private static void lessTargets() {
        for (int t = 0; t <= 14; t++) {
            for (int size = 1; size <= 14; size++) {
                RangeGuard g = new RangeGuard();
                g.range(1, 1, 1);
                CHECK.due("less to " + t, g.less(0, 1, t), 0);
                fill(g, size);
                dueTarget("less", g, t);
            }
        }
    }

    private static void lessAtTheEnd() {
        for (int size = 1; size <= 14; size++) {
            RangeGuard g = new RangeGuard();
            fill(g, size - 1);
            g.less(0, 1, 0);
            CHECK.run("less not met at the end of " + size, g, DONE, -1, size);
        }
    }

    private static void jumpTargets() {
        for (int t = 0; t <= 14; t++) {
            for (int size = 1; size <= 14; size++) {
                RangeGuard g = new RangeGuard();
                CHECK.due("jump to " + t, g.jump(t), 0);
                fill(g, size);
                dueTarget("jump", g, t);
            }
        }
    }

    private static void jumpFromTheLast() {
        for (int t = 0; t <= 14; t++) {
            RangeGuard g = new RangeGuard();
            fill(g, 13);
            CHECK.due("jump to " + t, g.jump(t), 13);
            CHECK.run("jump to " + t + " from 13", g, t == 14 ? DONE : TIRED, -1, t == 14 ? 14 : 120);
        }
    }

    private static void starts() {
        int[][] rows = {
            {-100, 100, 0}, {-100, -100, -100}, {100, 100, 100}, {-100, 0, 0}, {0, 100, 0}, {-100, -1, -1},
            {1, 100, 1}, {-1, 1, 0}, {-1, 0, 0}, {0, 1, 0}, {0, 0, 0}, {1, 1, 1}, {-1, -1, -1}, {1, 2, 1},
            {-2, -1, -1}, {99, 100, 99}, {-100, -99, -99},
        };
        for (int[] row : rows) {
            for (int x = 0; x < 4; x++) {
                RangeGuard g = new RangeGuard();
                for (int v = 0; v < 4; v++) {
                    g.constant(v, 77);
                }
                g.run();
                g.clear();
                g.range(x, row[0], row[1]);
                g.run();
                int[] want = new int[4];
                want[x] = row[2];
                CHECK.variables("start in " + row[0] + " to " + row[1], g, want);
            }
        }
    }

    private static void emptyProgram() {
        RangeGuard g = new RangeGuard();
        CHECK.run("never an instruction", g, DONE, -1, 0);
        fill(g, 14);
        CHECK.run("14 instructions", g, DONE, -1, 14);
        g.clear();
        CHECK.run("no instruction any more", g, DONE, -1, 0);
        CHECK.due("no instruction any more: variable 3", g.variable(3), 0);
    }

    private static void doneAfterTheLast() {
        for (int size = 1; size <= 14; size++) {
            RangeGuard g = new RangeGuard();
            fill(g, size);
            CHECK.run(size + " instructions", g, DONE, -1, size);
            CHECK.due(size + " instructions: the last", g.variable(3), 50 + size - 1);
        }
    }

    /**
     * Its first two or three instructions work off n, 4 to 120, and leave n / 2 in
     * variable 0 and 0 in variable 3; what is appended then comes as number n + 1.
     */
    private static RangeGuard worksOff(int n) {
        RangeGuard g = new RangeGuard();
        g.range(1, n / 2, n / 2);
        g.plus(0, 0, 1);
        g.less(0, 1, 0);
        if (n % 2 == 1) {
            g.constant(2, 1);
        }
        return g;
    }

    private static void doneAt120() {
        for (int n = 117; n <= 120; n++) {
            CHECK.run(n + " and no more", worksOff(n), DONE, -1, n);
        }
        for (int n = 117; n <= 119; n++) {
            RangeGuard byJump = worksOff(n);
            byJump.jump(14);
            fill(byJump, 14);
            CHECK.run(n + " and a jump past the end", byJump, DONE, -1, n + 1);
            CHECK.due(n + " and a jump: the rest", byJump.variable(3), 0);
            RangeGuard byLess = worksOff(n);
            byLess.less(3, 1, 14);
            fill(byLess, 13);
            CHECK.run(n + " and a less past the end", byLess, DONE, -1, n + 1);
            CHECK.due(n + " and a less: the rest", byLess.variable(3), 0);
        }
    }

    private static void tiredAt120() {
        RangeGuard next = worksOff(120);
        fill(next, 3);
        CHECK.run("120 and one more", next, TIRED, -1, 120);
        RangeGuard jump = worksOff(120);
        jump.jump(14);
        CHECK.run("120 and a jump past the end", jump, TIRED, -1, 120);
        RangeGuard back = worksOff(119);
        back.jump(0);
        CHECK.run("a jump as the 120th, to an instruction", back, TIRED, -1, 120);
        RangeGuard less = worksOff(119);
        less.less(3, 1, 0);
        CHECK.run("a less as the 120th, to an instruction", less, TIRED, -1, 120);
        RangeGuard not = worksOff(119);
        not.less(1, 3, 14);
        fill(not, 5);
        CHECK.run("a less as the 120th, with a next one", not, TIRED, -1, 120);
        RangeGuard own = new RangeGuard();
        own.jump(0);
        CHECK.run("a jump to itself", own, TIRED, -1, 120);
    }

    private static void effectAt120() {
        RangeGuard last = worksOff(119);
        last.store(0, 3, 7);
        CHECK.run("store as the 120th", last, DONE, -1, 120);
        CHECK.due("store as the 120th: cell 7", last.cell(7), 59);
        last.store(1, 3, 6);
        CHECK.run("a 121st", last, TIRED, -1, 120);
        CHECK.cells("a 121st", last, 0, 0, 0, 0, 0, 0, 0, 59);
        RangeGuard late = worksOff(120);
        late.store(0, 3, 7);
        CHECK.run("store as the 121st", late, TIRED, -1, 120);
        CHECK.due("store as the 121st: cell 7", late.cell(7), 0);
        CHECK.variables("store as the 121st", late, 60, 60, 0, 0);
    }

    /** 120 is eight rounds of 14 and eight instructions more. */
    private static void tiredInFullProgram() {
        RangeGuard g = new RangeGuard();
        fill(g, 13);
        g.jump(0);
        CHECK.run("13 and a jump", g, TIRED, -1, 120);
        CHECK.variables("13 and a jump", g, 0, 0, 0, 57);
    }

    private static void refusedPlaces() {
        for (int place = 0; place < 14; place++) {
            RangeGuard g = new RangeGuard();
            g.range(1, 0, 1);
            fill(g, place);
            g.constant(1, 2);
            fill(g, 14);
            CHECK.run("refused at " + place, g, REFUSED, place, place + 1);
            CHECK.due("refused at " + place + ": got to", g.variable(3), place == 0 ? 0 : 50 + place - 1);
            CHECK.due("refused at " + place + ": variable 1", g.variable(1), 0);
        }
    }

    private static void outsidePlaces() {
        for (int place = 0; place < 14; place++) {
            for (int way = 0; way < 2; way++) {
                RangeGuard g = numberedCells();
                fill(g, place);
                int number = way == 0 ? g.load(2, 1, 8) : g.store(2, 1, -1);
                CHECK.due("number", number, place);
                fill(g, 14);
                CHECK.run("outside at " + place, g, OUTSIDE, place, place + 1);
                CHECK.due("outside at " + place + ": got to", g.variable(3), place == 0 ? 0 : 50 + place - 1);
                CHECK.due("outside at " + place + ": variable 2", g.variable(2), 0);
                CHECK.cells("outside at " + place, g, 90, 89, 88, 87, 86, 85, 84, 83);
            }
        }
    }

    private static void endsAt120() {
        for (int n = 118; n <= 120; n++) {
            RangeGuard refused = worksOff(n);
            refused.plus(1, 1, 1);
            int place = refused.size() - 1;
            boolean tired = n == 120;
            CHECK.run(n + " and refused", refused, tired ? TIRED : REFUSED, tired ? -1 : place, tired ? 120 : n + 1);
            RangeGuard load = worksOff(n);
            load.load(2, 0, 0);
            CHECK.run(n + " and load outside", load, tired ? TIRED : OUTSIDE, tired ? -1 : place, tired ? 120 : n + 1);
            RangeGuard store = worksOff(n);
            store.store(2, 3, -1);
            CHECK.run(n + " and store outside", store, tired ? TIRED : OUTSIDE, tired ? -1 : place, tired ? 120 : n + 1);
        }
    }

    private static void refusedChangesNothing() {
        RangeGuard[] refused = new RangeGuard[5];
        for (int way = 0; way < 5; way++) {
            RangeGuard g = numberedCells();
            g.range(0, 10, 20);
            g.range(2, -20, -10);
            g.constant(0, 15);
            g.constant(1, 4);
            g.constant(2, -15);
            refused[way] = g;
        }
        refused[0].constant(0, 21);
        refused[1].plus(0, 0, 6);
        refused[2].sum(0, 2, 1);
        refused[3].mask(2, 1, 63);
        refused[4].load(2, 1, 0);
        for (int way = 0; way < 5; way++) {
            refused[way].store(1, 1, 0);
            CHECK.run("refused, way " + way, refused[way], REFUSED, 3, 4);
            CHECK.variables("refused, way " + way, refused[way], 15, 4, -15, 0);
            CHECK.cells("refused, way " + way, refused[way], 90, 89, 88, 87, 86, 85, 84, 83);
        }
    }

    private static void outsideChangesNothing() {
        for (int y : new int[] {-100, -1, 8, 100}) {
            for (int way = 0; way < 2; way++) {
                RangeGuard g = numberedCells();
                g.constant(0, 15);
                g.constant(1, y);
                if (way == 0) {
                    g.load(0, 1, 0);
                } else {
                    g.store(0, 1, 0);
                }
                g.store(0, 2, 0);
                CHECK.run("outside at " + y, g, OUTSIDE, 2, 3);
                CHECK.variables("outside at " + y, g, 15, y, 0, 0);
                CHECK.cells("outside at " + y, g, 90, 89, 88, 87, 86, 85, 84, 83);
            }
        }
    }

    private static void cellsStay() {
        int[] endings = {DONE, REFUSED, OUTSIDE, TIRED};
        for (int ending : endings) {
            RangeGuard g = new RangeGuard();
            g.range(2, 0, 1);
            g.load(0, 1, 7);
            g.plus(0, 0, 40);
            g.store(0, 1, 7);
            switch (ending) {
                case REFUSED: g.constant(2, 2); break;
                case OUTSIDE: g.store(3, 1, 8); break;
                case TIRED: g.jump(3); break;
                default: g.constant(2, 1); break;
            }
            int worked = ending == TIRED ? 120 : 4;
            int place = ending == REFUSED || ending == OUTSIDE ? 3 : -1;
            CHECK.run("run 1", g, ending, place, worked);
            CHECK.cells("run 1", g, 0, 0, 0, 0, 0, 0, 0, 40);
            CHECK.run("run 2", g, ending, place, worked);
            CHECK.cells("run 2", g, 0, 0, 0, 0, 0, 0, 0, 80);
            CHECK.run("run 3", g, REFUSED, 1, 2);
            CHECK.cells("run 3", g, 0, 0, 0, 0, 0, 0, 0, 80);
        }
    }
}
