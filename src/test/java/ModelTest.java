import java.util.ArrayList;
import java.util.List;

/**
 * Many objects, each used for some 500 calls, whose answers are compared with
 * those of a second, different writing of the document.
 */
public final class ModelTest {
    private static final int OBJECTS = 3000;
    // One turn may make 18 calls, and an object is promised for 512 of them.
    private static final int CALLS = 490;
    private static final int LEAST_OF_EACH_ENDING = 1000;

    private static final Check CHECK = new Check();
    private static final int[] ENDINGS = new int[5];
    // Numbers that follow from a fixed start, so that every run of the test is the same.
    private static long state = 20261115L;

    /** An instruction answers where to go on, or ends the run by one of the codes below. */
    private interface Step {
        int work(Model m, int at);
    }

    private static final int STOP_REFUSED = -2;
    private static final int STOP_OUTSIDE = -3;

    private static final class Model {
        final int[][] ranges = {{-100, 100}, {-100, 100}, {-100, 100}, {-100, 100}};
        final int[] held = new int[4];
        final int[] cells = new int[8];
        final List<Step> program = new ArrayList<>();
        int ending = 0;
        int place = -1;
        int worked = 0;

        static boolean in(int lo, int hi, int... numbers) {
            for (int n : numbers) {
                if (n < lo || n > hi) {
                    return false;
                }
            }
            return true;
        }

        int append(boolean good, Step step) {
            if (!good) {
                return -1;
            }
            if (program.size() == 14) {
                return -2;
            }
            program.add(step);
            return program.size() - 1;
        }

        int gets(int x, int n, int at) {
            if (!in(ranges[x][0], ranges[x][1], n)) {
                return STOP_REFUSED;
            }
            held[x] = n;
            return at + 1;
        }

        int stores(int x, int i, int at) {
            if (!in(0, 7, i)) {
                return STOP_OUTSIDE;
            }
            cells[i] = held[x];
            return at + 1;
        }

        int range(int x, int lo, int hi) {
            if (!in(0, 3, x) || !in(-100, 100, lo, hi) || lo > hi) {
                return -1;
            }
            ranges[x] = new int[] {lo, hi};
            return 0;
        }

        int append(int kind, int a, int b, int c) {
            switch (kind) {
                case 0:
                    return append(in(0, 3, a) && in(-100, 100, b), (m, at) -> m.gets(a, b, at));
                case 1:
                    return append(in(0, 3, a, b) && in(-100, 100, c), (m, at) -> m.gets(a, m.held[b] + c, at));
                case 2:
                    return append(in(0, 3, a, b, c), (m, at) -> m.gets(a, m.held[b] + m.held[c], at));
                case 3:
                    return append(in(0, 3, a, b) && in(0, 63, c), (m, at) -> m.gets(a, m.held[b] & c, at));
                case 4:
                    return append(in(0, 3, a, b) && in(-8, 8, c), (m, at) ->
                        in(0, 7, m.held[b] + c) ? m.gets(a, m.cells[m.held[b] + c], at) : STOP_OUTSIDE);
                case 5:
                    return append(in(0, 3, a, b) && in(-8, 8, c), (m, at) -> m.stores(a, m.held[b] + c, at));
                case 6:
                    return append(in(0, 3, a, b) && in(0, 14, c), (m, at) -> m.held[a] < m.held[b] ? c : at + 1);
                default:
                    return append(in(0, 14, a), (m, at) -> a);
            }
        }

        int setCell(int i, int v) {
            if (!in(0, 7, i) || !in(-100, 100, v)) {
                return -1;
            }
            int before = cells[i];
            cells[i] = v;
            return before;
        }

        int run() {
            for (int x = 0; x < 4; x++) {
                int best = ranges[x][0];
                for (int n = ranges[x][0]; n <= ranges[x][1]; n++) {
                    best = Math.abs(n) < Math.abs(best) ? n : best;
                }
                held[x] = best;
            }
            worked = 0;
            place = -1;
            int at = 0;
            while (true) {
                if (at >= program.size()) {
                    return ending = 1;
                }
                if (worked == 120) {
                    return ending = 4;
                }
                int next = program.get(at).work(this, at);
                worked++;
                if (next < 0) {
                    place = at;
                    return ending = -next;
                }
                at = next;
            }
        }

        int digest() {
            int total = 0;
            for (int w = 1; w <= 12; w++) {
                total += w * (w <= 4 ? held[w - 1] : cells[w - 5]);
            }
            return total;
        }
    }

    public static void main(String[] args) {
        for (int n = 0; n < OBJECTS; n++) {
            oneObject(n);
        }
        // A comparison in which some ending hardly comes up would say little.
        for (int ending = 1; ending <= 4; ending++) {
            CHECK.due("runs that end " + ending + " are many: " + ENDINGS[ending],
                ENDINGS[ending] >= LEAST_OF_EACH_ENDING ? 1 : 0, 1);
        }
        CHECK.end();
    }

    private static int pick(int bound) {
        state = state * 6364136223846793005L + 1442695040888963407L;
        return (int) ((state >>> 33) % bound);
    }

    /** A number from lo to hi, at times an end of it, seldom one outside. */
    private static int from(int lo, int hi) {
        int way = pick(60);
        if (way == 0) {
            return lo - 1;
        }
        if (way == 1) {
            return hi + 1;
        }
        if (way == 2) {
            return pick(2) == 0 ? Integer.MIN_VALUE : Integer.MAX_VALUE;
        }
        if (way < 8) {
            return pick(2) == 0 ? lo : hi;
        }
        return lo + pick(hi - lo + 1);
    }

    /** Small numbers mostly: with large ones nearly every run would end at once. */
    private static int number() {
        return pick(3) == 0 ? from(-100, 100) : from(-4, 8);
    }

    private static void oneObject(int n) {
        RangeGuard g = new RangeGuard();
        Model m = new Model();
        for (int call = 0; call < CALLS; ) {
            call += oneCall("object " + n + ", call " + call, g, m);
        }
    }

    private static int oneCall(String what, RangeGuard g, Model m) {
        int way = pick(100);
        if (way < 6) {
            int x = from(0, 3);
            int lo = pick(2) == 0 ? from(-100, 0) : number();
            int hi = pick(2) == 0 ? from(0, 100) : number();
            CHECK.due(what + ": range " + x + " " + lo + " " + hi, g.range(x, lo, hi), m.range(x, lo, hi));
            return 1;
        }
        if (way < 56) {
            append(what, g, m);
            return 1;
        }
        if (way < 60) {
            g.clear();
            m.program.clear();
            CHECK.due(what + ": size after clear", g.size(), 0);
            return 2;
        }
        if (way < 72) {
            int i = from(0, 7);
            int v = number();
            CHECK.due(what + ": setCell " + i + " " + v, g.setCell(i, v), m.setCell(i, v));
            return 1;
        }
        if (way < 84) {
            CHECK.due(what + ": run", g.run(), m.run());
            ENDINGS[m.ending]++;
            return 1 + compare(what + ", run", g, m);
        }
        if (way < 88) {
            return compare(what, g, m);
        }
        return query(what, g, m);
    }

    private static void append(String what, RangeGuard g, Model m) {
        int kind = pick(8);
        int a = kind == 7 ? from(0, 14) : from(0, 3);
        int b = kind == 0 ? number() : from(0, 3);
        int c = third(kind);
        int got;
        switch (kind) {
            case 0: got = g.constant(a, b); break;
            case 1: got = g.plus(a, b, c); break;
            case 2: got = g.sum(a, b, c); break;
            case 3: got = g.mask(a, b, c); break;
            case 4: got = g.load(a, b, c); break;
            case 5: got = g.store(a, b, c); break;
            case 6: got = g.less(a, b, c); break;
            default: got = g.jump(a); break;
        }
        CHECK.due(what + ": kind " + kind + " " + a + " " + b + " " + c, got, m.append(kind, a, b, c));
    }

    private static int third(int kind) {
        switch (kind) {
            case 1: return number();
            case 2: return from(0, 3);
            case 3: return from(0, 63);
            case 4:
            case 5: return pick(3) == 0 ? from(-8, 8) : from(0, 5);
            default: return from(0, 14);
        }
    }

    private static int query(String what, RangeGuard g, Model m) {
        int i = from(0, 7);
        CHECK.due(what + ": cell " + i, g.cell(i), Model.in(0, 7, i) ? m.cells[i] : 0);
        int x = from(0, 3);
        CHECK.due(what + ": variable " + x, g.variable(x), Model.in(0, 3, x) ? m.held[x] : 0);
        CHECK.due(what + ": size", g.size(), m.program.size());
        return 3;
    }

    private static int compare(String what, RangeGuard g, Model m) {
        CHECK.due(what + ": ending", g.ending(), m.ending);
        CHECK.due(what + ": place", g.place(), m.place);
        CHECK.due(what + ": worked", g.worked(), m.worked);
        CHECK.due(what + ": digest", g.digest(), m.digest());
        CHECK.due(what + ": size", g.size(), m.program.size());
        for (int x = 0; x < 4; x++) {
            CHECK.due(what + ": variable " + x, g.variable(x), m.held[x]);
        }
        for (int i = 0; i < 8; i++) {
            CHECK.due(what + ": cell " + i, g.cell(i), m.cells[i]);
        }
        return 17;
    }
}
