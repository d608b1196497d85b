import java.util.Arrays;

/**
 * The sentences of promises 1 to 20 that name a boundary, each with a test of
 * its own: the last argument that is allowed and the first that isn't, refused
 * calls and that they change nothing, an empty program and a full one.
 */
public final class CallBoundaryTest {
    private static final int MIN = Integer.MIN_VALUE;
    private static final int MAX = Integer.MAX_VALUE;
    private static final int BAD = RangeGuard.BAD_ARG;
    private static final int FULL = RangeGuard.FULL;
    private static final int NO_RUN = RangeGuard.NO_RUN;
    private static final int DONE = RangeGuard.DONE;
    private static final int REFUSED = RangeGuard.REFUSED;
    private static final int OUTSIDE = RangeGuard.OUTSIDE;
    private static final int TIRED = RangeGuard.TIRED;

    private static final int[] VARIABLE = {0, 3};
    private static final int[] NUMBER = {-100, 100};
    private static final int[] CELL = {0, 7};
    private static final int[] BITS = {0, 63};
    private static final int[] OFFSET = {-8, 8};
    private static final int[] TARGET = {0, 14};

    private static final Check CHECK = new Check();

    /** A method with its arguments; what a method has fewer of than three is not looked at. */
    private interface Caller {
        int call(RangeGuard g, int a, int b, int c);
    }

    /** A method, the letter of each of its arguments, and from where to where each may go. */
    private record Method(String name, String letters, Caller caller, int[]... arguments) {
        int call(RangeGuard g, int[] a) {
            return caller.call(g, a[0], a.length > 1 ? a[1] : 0, a.length > 2 ? a[2] : 0);
        }

        String told(int[] a) {
            return name + Arrays.toString(a);
        }

        /** In every argument a number that is allowed, so that one of them can be put wrong. */
        int[] allowed() {
            int[] a = new int[arguments.length];
            for (int n = 0; n < a.length; n++) {
                a[n] = n < 2 ? 1 : 2;
            }
            return a;
        }
    }

    private static final Method RANGE = new Method("range", "xlh", RangeGuard::range, VARIABLE, NUMBER, NUMBER);
    private static final Method CONSTANT = new Method("constant", "xk", (g, a, b, c) -> g.constant(a, b), VARIABLE, NUMBER);
    private static final Method PLUS = new Method("plus", "xyk", RangeGuard::plus, VARIABLE, VARIABLE, NUMBER);
    private static final Method SUM = new Method("sum", "xyz", RangeGuard::sum, VARIABLE, VARIABLE, VARIABLE);
    private static final Method MASK = new Method("mask", "xyk", RangeGuard::mask, VARIABLE, VARIABLE, BITS);
    private static final Method LOAD = new Method("load", "xyk", RangeGuard::load, VARIABLE, VARIABLE, OFFSET);
    private static final Method STORE = new Method("store", "xyk", RangeGuard::store, VARIABLE, VARIABLE, OFFSET);
    private static final Method LESS = new Method("less", "xyt", RangeGuard::less, VARIABLE, VARIABLE, TARGET);
    private static final Method JUMP = new Method("jump", "t", (g, a, b, c) -> g.jump(a), TARGET);
    private static final Method SET_CELL = new Method("setCell", "iv", (g, a, b, c) -> g.setCell(a, b), CELL, NUMBER);
    private static final Method CELL_OF = new Method("cell", "i", (g, a, b, c) -> g.cell(a), CELL);
    private static final Method VARIABLE_OF = new Method("variable", "x", (g, a, b, c) -> g.variable(a), VARIABLE);
    private static final Method[] APPENDING = {CONSTANT, PLUS, SUM, MASK, LOAD, STORE, LESS, JUMP};

    /** States in which a call may come; CLEARED had a full program. */
    private enum State { NEW, NEVER_RUN, THIRTEEN, ENDED_DONE, ENDED_REFUSED, ENDED_OUTSIDE, ENDED_TIRED, CLEARED }

    public static void main(String[] args) {
        CHECK.sentence("1: every range is -100 to 100", CallBoundaryTest::newRanges);
        CHECK.sentence("1: every cell 0, every variable 0, no instruction, no run yet", CallBoundaryTest::newObject);
        CHECK.sentence("2: the ends of what range takes", CallBoundaryTest::rangeTakes);
        CHECK.sentence("2: what x holds stays until the next run", CallBoundaryTest::rangeKeepsWhatIsHeld);
        CHECK.sentence("2: BAD_ARG if x is not 0 to 3", () -> refusesOne(RANGE, 0));
        CHECK.sentence("2: BAD_ARG if lo is not -100 to 100", () -> refusesOne(RANGE, 1));
        CHECK.sentence("2: BAD_ARG if hi is not -100 to 100", () -> refusesOne(RANGE, 2));
        CHECK.sentence("2: BAD_ARG if lo > hi", CallBoundaryTest::rangeTurnedRound);
        for (int n = 0; n < APPENDING.length; n++) {
            appending(n + 3, APPENDING[n]);
        }
        CHECK.sentence("3 to 10: FULL whatever stands in the program", CallBoundaryTest::fullOfEachKind);
        CHECK.sentence("11: size from 0 to 14", CallBoundaryTest::size);
        CHECK.sentence("12: clear removes all instructions, none, one or 14", CallBoundaryTest::clear);
        CHECK.sentence("12: clear changes nothing else", CallBoundaryTest::clearKeepsTheRest);
        CHECK.sentence("13: the ends of what setCell takes, and what the cell held", CallBoundaryTest::setCellTakes);
        CHECK.sentence("13: BAD_ARG if i is not 0 to 7", () -> refusesOne(SET_CELL, 0));
        CHECK.sentence("13: BAD_ARG if v is not -100 to 100", () -> refusesOne(SET_CELL, 1));
        CHECK.sentence("13: BAD_ARG if both are not", () -> refusesAll(SET_CELL));
        CHECK.sentence("14: cell i from 0 to 7", CallBoundaryTest::cells);
        CHECK.sentence("14: 0 if i is not 0 to 7", () -> answersZero(CELL_OF));
        CHECK.sentence("15: variable x from 0 to 3", CallBoundaryTest::variables);
        CHECK.sentence("15: 0 if x is not 0 to 3", () -> answersZero(VARIABLE_OF));
        CHECK.sentence("16: run answers how it ended", CallBoundaryTest::runAnswers);
        CHECK.sentence("17: ending is NO_RUN if there was no run", CallBoundaryTest::endingOfNone);
        CHECK.sentence("17: ending is that of the last run", CallBoundaryTest::endingOfTheLast);
        CHECK.sentence("18: place is -1 if there was no run", CallBoundaryTest::placeOfNone);
        CHECK.sentence("18: place is -1 after DONE and TIRED, else 0 to 13", CallBoundaryTest::placeOfTheLast);
        CHECK.sentence("19: worked is 0 if there was no run", CallBoundaryTest::workedOfNone);
        CHECK.sentence("19: worked from 0 to 120, of the last run", CallBoundaryTest::workedOfTheLast);
        CHECK.sentence("20: digest from -7800 to 7800", CallBoundaryTest::digest);
        CHECK.sentence("20: digest of what is held, not of what the next run sets", CallBoundaryTest::digestOfNow);
        CHECK.sentence("11, 17 to 20: what is asked changes nothing", CallBoundaryTest::queriesChangeNothing);
        CHECK.sentence("no call ever throws", CallBoundaryTest::everyEdge);
        CHECK.end();
    }

    private static void appending(int promise, Method method) {
        String name = promise + ": " + method.name();
        CHECK.sentence(name + " takes the ends of its arguments", () -> takesEnds(method));
        for (int n = 0; n < method.arguments().length; n++) {
            int which = n;
            int[] ends = method.arguments()[n];
            String fault = method.letters().charAt(n) + " is not " + ends[0] + " to " + ends[1];
            CHECK.sentence(name + " answers BAD_ARG if " + fault, () -> refusesOne(method, which));
        }
        CHECK.sentence(name + " answers BAD_ARG if no argument is in its range", () -> refusesAll(method));
        CHECK.sentence(name + " answers FULL after 14", () -> fullAfter14(method));
        CHECK.sentence(name + " answers its number, 0 to 13", () -> numbers(method));
    }

    /** Every instruction is worked off or jumped over, and a different one would be seen. */
    private static void appendThirteen(RangeGuard g) {
        g.constant(0, 7);
        g.plus(1, 1, 3);
        g.sum(3, 0, 1);
        g.mask(3, 3, 10);
        g.store(3, 1, -4);
        g.load(0, 1, 1);
        g.less(2, 1, 8);
        g.constant(0, -50);
        g.plus(2, 2, -4);
        g.store(2, 1, 2);
        g.less(1, 2, 0);
        g.jump(13);
        g.constant(3, 40);
    }

    private static RangeGuard made(State state) {
        RangeGuard g = new RangeGuard();
        if (state == State.NEW) {
            return g;
        }
        g.range(0, -50, 60);
        g.range(1, 2, 9);
        g.range(2, -9, -2);
        g.range(3, -1, 40);
        for (int i = 0; i < 8; i++) {
            g.setCell(i, 10 * i - 35);
        }
        appendThirteen(g);
        switch (state) {
            case THIRTEEN: break;
            case ENDED_REFUSED: g.constant(1, 10); break;
            case ENDED_OUTSIDE: g.load(0, 1, 3); break;
            case ENDED_TIRED: g.jump(13); break;
            default: g.plus(3, 3, 1); break;
        }
        if (state != State.NEVER_RUN) {
            g.run();
        }
        if (state == State.CLEARED) {
            g.clear();
        }
        return g;
    }

    private static boolean isFull(State state) {
        return state != State.NEW && state != State.THIRTEEN && state != State.CLEARED;
    }

    /** That the two objects are in the same state; it takes some 200 calls of each. */
    private static void same(String what, RangeGuard g, RangeGuard twin) {
        sameAnswers(what, g, twin);
        CHECK.due(what + ": the next run", g.run(), twin.run());
        sameAnswers(what + ", after the next run", g, twin);
        // In a full program this would be a refused call, and a fault of those would then be the twin's, too.
        if (twin.size() < 14) {
            CHECK.due(what + ": the next number", g.constant(3, 33), twin.constant(3, 33));
            CHECK.due(what + ": the run after it", g.run(), twin.run());
            sameAnswers(what + ", after the run after it", g, twin);
        }
        sameRanges(what, g, twin);
    }

    private static void sameAnswers(String what, RangeGuard g, RangeGuard twin) {
        CHECK.due(what + ": size", g.size(), twin.size());
        sameButSize(what, g, twin);
    }

    private static void sameButSize(String what, RangeGuard g, RangeGuard twin) {
        CHECK.lastRun(what, g, twin.ending(), twin.place(), twin.worked());
        CHECK.due(what + ": digest", g.digest(), twin.digest());
        for (int x = 0; x < 4; x++) {
            CHECK.due(what + ": variable " + x, g.variable(x), twin.variable(x));
        }
        for (int i = 0; i < 8; i++) {
            CHECK.due(what + ": cell " + i, g.cell(i), twin.cell(i));
        }
    }

    private static void sameRanges(String what, RangeGuard g, RangeGuard twin) {
        for (int x = 0; x < 4; x++) {
            CHECK.due(what + ": lo of " + x, endOfRange(g, x, -1), endOfRange(twin, x, -1));
            CHECK.due(what + ": hi of " + x, endOfRange(g, x, 1), endOfRange(twin, x, 1));
        }
    }

    /** Goes from the start by single steps, 111 in 120 instructions, until the range refuses one. */
    private static int endOfRange(RangeGuard g, int x, int step) {
        g.clear();
        for (int n = 0; n < 13; n++) {
            g.plus(x, x, step);
        }
        g.jump(0);
        CHECK.due("the end of a range is met", g.run(), REFUSED);
        return g.variable(x);
    }

    /** The nearest numbers that are not lo to hi, the farthest, and some that a shorter type would take for such. */
    private static int[] outside(int[] ends) {
        int lo = ends[0];
        int hi = ends[1];
        return new int[] {
            lo - 1, hi + 1, MIN, MIN + 1, MAX, MAX - 1, lo + 256, hi - 256, lo + 65536, hi - 65536, (1 << 30) + hi,
            MIN + Math.max(lo, 1),
        };
    }

    private static void refuses(Method method, int[] a) {
        for (State state : State.values()) {
            String what = method.told(a) + " when " + state;
            RangeGuard g = made(state);
            CHECK.due(what, method.call(g, a), BAD);
            same(what, g, made(state));
        }
    }

    /** One argument is wrong; BAD_ARG comes before FULL, so it is answered in every state. */
    private static void refusesOne(Method method, int which) {
        for (int n : outside(method.arguments()[which])) {
            int[] a = method.allowed();
            a[which] = n;
            // A range must not be refused for lo > hi where another fault is asked for.
            if (method == RANGE && which == 1 && n < 0) {
                a[2] = 100;
            }
            refuses(method, a);
        }
    }

    private static void refusesAll(Method method) {
        for (int n = 0; n < outside(VARIABLE).length; n++) {
            int[] a = new int[method.arguments().length];
            for (int which = 0; which < a.length; which++) {
                a[which] = outside(method.arguments()[which])[n];
            }
            refuses(method, a);
        }
    }

    private static void newRanges() {
        RangeGuard g = new RangeGuard();
        for (int x = 0; x < 4; x++) {
            CHECK.due("lo of " + x, endOfRange(g, x, -1), -100);
            CHECK.due("hi of " + x, endOfRange(g, x, 1), 100);
        }
    }

    private static void newObject() {
        RangeGuard g = made(State.NEW);
        CHECK.cells("new", g, 0, 0, 0, 0, 0, 0, 0, 0);
        CHECK.variables("new", g, 0, 0, 0, 0);
        CHECK.due("new: size", g.size(), 0);
        CHECK.lastRun("new", g, NO_RUN, -1, 0);
        CHECK.due("new: digest", g.digest(), 0);
        RangeGuard used = made(State.ENDED_REFUSED);
        same("new beside " + used.size() + " instructions", new RangeGuard(), g);
    }

    private static void rangeTakes() {
        int[][] rows = {
            {-100, 100}, {-100, -100}, {100, 100}, {-100, -99}, {99, 100}, {0, 0}, {-1, 0}, {0, 1}, {5, 5}, {-5, -5},
        };
        for (int[] row : rows) {
            for (int x = 0; x < 4; x++) {
                RangeGuard g = made(State.NEVER_RUN);
                CHECK.due("range " + x + " " + row[0] + " to " + row[1], g.range(x, row[0], row[1]), 0);
                for (int v = 0; v < 4; v++) {
                    int lo = new int[] {-50, 2, -9, -1}[v];
                    int hi = new int[] {60, 9, -2, 40}[v];
                    CHECK.due("lo of " + v, endOfRange(g, v, -1), v == x ? row[0] : lo);
                    CHECK.due("hi of " + v, endOfRange(g, v, 1), v == x ? row[1] : hi);
                }
            }
        }
    }

    private static void rangeKeepsWhatIsHeld() {
        for (State state : State.values()) {
            RangeGuard g = made(state);
            RangeGuard twin = made(state);
            for (int x = 0; x < 4; x++) {
                CHECK.due("range", g.range(x, 90 + x, 95), 0);
                sameAnswers("range of " + x + " when " + state, g, twin);
            }
            g.clear();
            CHECK.run("the next run", g, DONE, -1, 0);
            CHECK.variables("the next run", g, 90, 91, 92, 93);
        }
    }

    private static void rangeTurnedRound() {
        int[][] rows = {{-99, -100}, {100, 99}, {1, 0}, {0, -1}, {1, -1}, {100, -100}, {6, 5}};
        for (int[] row : rows) {
            for (int x = 0; x < 4; x++) {
                refuses(RANGE, new int[] {x, row[0], row[1]});
            }
        }
    }

    /** Every choice of least and greatest arguments. */
    private static void takesEnds(Method method) {
        int length = method.arguments().length;
        for (int choice = 0; choice < 1 << length; choice++) {
            int[] a = new int[length];
            for (int n = 0; n < length; n++) {
                a[n] = method.arguments()[n][choice >> n & 1];
            }
            RangeGuard g = made(State.THIRTEEN);
            CHECK.due(method.told(a) + " as the last", method.call(g, a), 13);
            CHECK.due(method.told(a) + ": size", g.size(), 14);
            g.clear();
            CHECK.due(method.told(a) + " as the first", method.call(g, a), 0);
            CHECK.due(method.told(a) + ": size", g.size(), 1);
        }
    }

    private static void fullAfter14(Method method) {
        for (State state : State.values()) {
            if (!isFull(state)) {
                continue;
            }
            for (int end = 0; end < 2; end++) {
                int[] a = new int[method.arguments().length];
                for (int n = 0; n < a.length; n++) {
                    a[n] = method.arguments()[n][end];
                }
                String what = method.told(a) + " when " + state;
                RangeGuard g = made(state);
                CHECK.due(what, method.call(g, a), FULL);
                same(what, g, made(state));
            }
        }
    }

    private static void numbers(Method method) {
        RangeGuard g = new RangeGuard();
        for (int round = 0; round < 2; round++) {
            for (int n = 0; n < 14; n++) {
                CHECK.due("number " + n, method.call(g, method.allowed()), n);
            }
            CHECK.due("number 14", method.call(g, method.allowed()), FULL);
            CHECK.due("size", g.size(), 14);
            g.clear();
        }
    }

    private static void fullOfEachKind() {
        for (Method inside : APPENDING) {
            RangeGuard g = new RangeGuard();
            for (int n = 0; n < 14; n++) {
                inside.call(g, inside.allowed());
            }
            for (Method more : APPENDING) {
                CHECK.due(more.name() + " after 14 of " + inside.name(), more.call(g, more.allowed()), FULL);
            }
            CHECK.due("size", g.size(), 14);
        }
    }

    private static void size() {
        RangeGuard g = new RangeGuard();
        for (int n = 0; n < 14; n++) {
            CHECK.due("size", g.size(), n);
            g.jump(15);
            CHECK.due("size after BAD_ARG", g.size(), n);
            g.jump(14);
        }
        CHECK.due("size", g.size(), 14);
        g.jump(14);
        CHECK.due("size after FULL", g.size(), 14);
        g.run();
        CHECK.due("size after a run", g.size(), 14);
        g.clear();
        CHECK.due("size after clear", g.size(), 0);
    }

    private static void clear() {
        for (int size : new int[] {0, 1, 13, 14}) {
            RangeGuard g = new RangeGuard();
            for (int n = 0; n < size; n++) {
                g.constant(0, 1);
            }
            g.clear();
            CHECK.due("clear " + size, g.size(), 0);
            CHECK.run("clear " + size, g, DONE, -1, 0);
            CHECK.due("clear " + size + ": variable 0", g.variable(0), 0);
            CHECK.due("clear " + size + ": jump to 1", g.jump(1), 0);
            CHECK.run("clear " + size + ": an old target", g, DONE, -1, 1);
            for (int n = 1; n < 14; n++) {
                CHECK.due("clear " + size + ": number " + n, g.constant(0, 2), n);
            }
            CHECK.due("clear " + size + ": full again", g.constant(0, 2), FULL);
        }
    }

    private static void clearKeepsTheRest() {
        for (State state : State.values()) {
            RangeGuard g = made(state);
            g.clear();
            CHECK.due("clear when " + state + ": size", g.size(), 0);
            RangeGuard twin = made(state);
            sameButSize("clear when " + state, g, twin);
            sameRanges("clear when " + state, g, twin);
        }
    }

    private static void setCellTakes() {
        for (int i = 0; i < 8; i++) {
            RangeGuard g = made(State.ENDED_REFUSED);
            RangeGuard twin = made(State.ENDED_REFUSED);
            int held = twin.cell(i);
            for (int v : new int[] {-100, 100, -99, 99, -1, 0, 1, -2, -2}) {
                CHECK.due("setCell " + i + " " + v, g.setCell(i, v), held);
                CHECK.due("cell " + i, g.cell(i), v);
                held = v;
            }
            CHECK.due("setCell " + i + " back", g.setCell(i, twin.cell(i)), -2);
            same("setCell " + i + " and back", g, twin);
        }
    }

    private static void cells() {
        RangeGuard g = new RangeGuard();
        for (int i = 0; i < 8; i++) {
            g.setCell(i, i % 2 == 0 ? -100 + i : 100 - i);
        }
        CHECK.cells("cell", g, -100, 99, -98, 97, -96, 95, -94, 93);
    }

    private static void variables() {
        RangeGuard g = new RangeGuard();
        g.constant(0, -100);
        g.constant(1, 100);
        g.constant(2, -99);
        g.constant(3, 99);
        CHECK.variables("before the run", g, 0, 0, 0, 0);
        g.run();
        CHECK.variables("after the run", g, -100, 100, -99, 99);
    }

    /** The neighbours of what is asked for hold something other than 0. */
    private static void answersZero(Method method) {
        for (int n : outside(method.arguments()[0])) {
            for (State state : State.values()) {
                RangeGuard g = made(state);
                CHECK.due(method.name() + " " + n + " when " + state, method.call(g, new int[] {n}), 0);
                same(method.name() + " " + n + " when " + state, g, made(state));
            }
        }
    }

    private static int endingOf(State state) {
        switch (state) {
            case ENDED_REFUSED: return REFUSED;
            case ENDED_OUTSIDE: return OUTSIDE;
            case ENDED_TIRED: return TIRED;
            default: return DONE;
        }
    }

    private static void runAnswers() {
        for (State state : State.values()) {
            RangeGuard g = made(state);
            for (int n = 0; n < 2; n++) {
                CHECK.due("run when " + state, g.run(), endingOf(state));
                CHECK.due("ending when " + state, g.ending(), endingOf(state));
            }
        }
    }

    private static void endingOfNone() {
        CHECK.due("ending, new", made(State.NEW).ending(), NO_RUN);
        RangeGuard g = made(State.NEVER_RUN);
        CHECK.due("ending, full", g.ending(), NO_RUN);
        g.jump(0);
        g.clear();
        CHECK.due("ending, cleared", g.ending(), NO_RUN);
        g.run();
        CHECK.due("ending after a run", g.ending(), DONE);
    }

    /** One after another, so that each ending takes the place of each other one. */
    private static void endingOfTheLast() {
        int[] endings = {DONE, REFUSED, DONE, OUTSIDE, DONE, TIRED, REFUSED, TIRED, OUTSIDE, REFUSED, OUTSIDE, TIRED, DONE};
        RangeGuard g = new RangeGuard();
        for (int ending : endings) {
            endBy(g, ending);
            CHECK.due("ending", g.ending(), ending);
        }
    }

    /** Makes a program whose run ends so, at instruction 1 if it ends at one, and runs it. */
    private static void endBy(RangeGuard g, int ending) {
        g.clear();
        g.constant(0, 100);
        switch (ending) {
            case REFUSED: g.plus(0, 0, 1); break;
            case OUTSIDE: g.load(1, 0, 0); break;
            case TIRED: g.jump(1); break;
            default: break;
        }
        g.run();
    }

    private static void placeOfNone() {
        CHECK.due("place, new", made(State.NEW).place(), -1);
        RangeGuard g = made(State.NEVER_RUN);
        CHECK.due("place, full", g.place(), -1);
        g.constant(4, 0);
        g.constant(0, 0);
        CHECK.due("place after refused calls", g.place(), -1);
    }

    private static void placeOfTheLast() {
        RangeGuard g = new RangeGuard();
        for (int ending : new int[] {REFUSED, DONE, OUTSIDE, TIRED, OUTSIDE, DONE, REFUSED, TIRED, REFUSED, OUTSIDE}) {
            endBy(g, ending);
            CHECK.due("place after " + ending, g.place(), ending == REFUSED || ending == OUTSIDE ? 1 : -1);
        }
        for (int place : new int[] {0, 13}) {
            for (int way = 0; way < 2; way++) {
                g.clear();
                for (int n = 0; n < 14; n++) {
                    if (n != place) {
                        g.constant(0, 100);
                    } else if (way == 0) {
                        g.load(1, 2, -1);
                    } else {
                        g.range(3, 0, 0);
                        g.constant(3, 1);
                    }
                }
                g.run();
                CHECK.due("place " + place, g.place(), place);
                g.clear();
                CHECK.due("place " + place + " after clear", g.place(), place);
            }
        }
    }

    private static void workedOfNone() {
        CHECK.due("worked, new", made(State.NEW).worked(), 0);
        RangeGuard g = made(State.NEVER_RUN);
        CHECK.due("worked, full", g.worked(), 0);
        g.clear();
        CHECK.due("worked, cleared", g.worked(), 0);
    }

    private static void workedOfTheLast() {
        RangeGuard g = new RangeGuard();
        g.jump(0);
        CHECK.run("for ever", g, TIRED, -1, 120);
        g.clear();
        CHECK.run("none", g, DONE, -1, 0);
        g.jump(14);
        CHECK.run("one", g, DONE, -1, 1);
        g.clear();
        g.load(0, 0, 8);
        CHECK.run("one, outside", g, OUTSIDE, 0, 1);
        g.clear();
        g.range(0, 0, 0);
        g.constant(0, 1);
        CHECK.run("one, refused", g, REFUSED, 0, 1);
        g.clear();
        CHECK.due("worked after clear", g.worked(), 1);
    }

    private static void digest() {
        for (int n : new int[] {-100, 100}) {
            RangeGuard g = new RangeGuard();
            int due = 0;
            for (int i = 0; i < 8; i++) {
                g.setCell(i, n);
                due += n * (i + 5);
                CHECK.due("digest with cell " + i, g.digest(), due);
            }
            for (int x = 0; x < 4; x++) {
                g.constant(x, n);
                CHECK.due("digest before the run", g.digest(), due);
                g.run();
                due += n * (x + 1);
                CHECK.due("digest with variable " + x, g.digest(), due);
            }
            CHECK.due("digest at its end", g.digest(), 78 * n);
        }
    }

    private static void digestOfNow() {
        RangeGuard g = new RangeGuard();
        g.range(3, 100, 100);
        CHECK.due("digest before the run", g.digest(), 0);
        g.run();
        CHECK.due("digest after the run", g.digest(), 400);
        g.range(3, -100, -100);
        CHECK.due("digest after the range", g.digest(), 400);
        g.run();
        CHECK.due("digest after the next run", g.digest(), -400);
    }

    private static void queriesChangeNothing() {
        for (State state : State.values()) {
            RangeGuard g = made(state);
            for (int n = 0; n < 2; n++) {
                g.size();
                g.ending();
                g.place();
                g.worked();
                g.digest();
            }
            same("asked when " + state, g, made(state));
        }
    }

    private static boolean isAllowed(Method method, int[] a) {
        for (int n = 0; n < a.length; n++) {
            if (a[n] < method.arguments()[n][0] || a[n] > method.arguments()[n][1]) {
                return false;
            }
        }
        return method != RANGE || a[1] <= a[2];
    }

    /** Every choice of numbers at and beside the ends, in an empty, a nearly full and a full program. */
    private static void everyEdge() {
        int[] numbers = {MIN, -101, -100, -9, -8, -1, 0, 3, 4, 7, 8, 14, 15, 63, 64, 100, 101, MAX};
        int choices = numbers.length * numbers.length * numbers.length;
        for (Method method : new Method[] {RANGE, CONSTANT, PLUS, SUM, MASK, LOAD, STORE, LESS, JUMP, SET_CELL}) {
            for (int choice = 0; choice < choices; choice++) {
                int[] all = {
                    numbers[choice % numbers.length], numbers[choice / numbers.length % numbers.length],
                    numbers[choice / numbers.length / numbers.length],
                };
                int[] a = Arrays.copyOf(all, method.arguments().length);
                anEdge(method, a, State.NEW, 0);
                anEdge(method, a, State.THIRTEEN, 13);
                anEdge(method, a, State.ENDED_OUTSIDE, FULL);
            }
        }
    }

    private static void anEdge(Method method, int[] a, State state, int number) {
        RangeGuard g = made(state);
        int held = a[0] >= 0 && a[0] <= 7 ? g.cell(a[0]) : 0;
        int taken = method == RANGE ? 0 : method == SET_CELL ? held : number;
        CHECK.due(method.told(a) + " when " + state, method.call(g, a), isAllowed(method, a) ? taken : BAD);
        int ended = g.run();
        CHECK.due(method.told(a) + " when " + state + ": the run ends", ended >= DONE && ended <= TIRED ? 1 : 0, 1);
    }
}
