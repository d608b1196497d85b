public final class RangeGuard {
    public static final int BAD_ARG = -1;
    public static final int FULL = -2;
    public static final int NO_RUN = 0;
    public static final int DONE = 1;
    public static final int REFUSED = 2;
    public static final int OUTSIDE = 3;
    public static final int TIRED = 4;

    private static final int VARIABLES = 4;
    private static final int CELLS = 8;
    private static final int MOST_INSTRUCTIONS = 14;
    private static final int MOST_WORKED = 120;
    private static final int LOWEST = -100;
    private static final int HIGHEST = 100;
    private static final int GREATEST_MASK = 63;
    private static final int FARTHEST_OFFSET = 8;
    private static final int NO_PLACE = -1;

    private static final int CONSTANT = 0;
    private static final int PLUS = 1;
    private static final int SUM = 2;
    private static final int MASK = 3;
    private static final int LOAD = 4;
    private static final int STORE = 5;
    private static final int LESS = 6;
    private static final int JUMP = 7;

    // How one instruction went when it did not end the run; the other
    // outcomes are REFUSED and OUTSIDE, so it must differ from both.
    private static final int GOES_ON = 0;

    private final int[] lows = new int[VARIABLES];
    private final int[] highs = new int[VARIABLES];
    private final int[] values = new int[VARIABLES];
    private final int[] cells = new int[CELLS];

    // Instruction n is kinds[n] with the operands firsts[n], seconds[n] and
    // thirds[n], in the order in which the document writes them; operands
    // that a kind does not have are 0.
    private final int[] kinds = new int[MOST_INSTRUCTIONS];
    private final int[] firsts = new int[MOST_INSTRUCTIONS];
    private final int[] seconds = new int[MOST_INSTRUCTIONS];
    private final int[] thirds = new int[MOST_INSTRUCTIONS];
    private int count = 0;

    private int lastEnding = NO_RUN;
    private int lastPlace = NO_PLACE;
    private int lastWorked = 0;

    public RangeGuard() {
        for (int x = 0; x < VARIABLES; x++) {
            lows[x] = LOWEST;
            highs[x] = HIGHEST;
        }
    }

    public int range(int x, int lo, int hi) {
        if (!isVariable(x) || !isNumber(lo) || !isNumber(hi) || lo > hi) {
            return BAD_ARG;
        }
        lows[x] = lo;
        highs[x] = hi;
        return 0;
    }

    public int constant(int x, int k) {
        if (!isVariable(x) || !isNumber(k)) {
            return BAD_ARG;
        }
        return append(CONSTANT, x, k, 0);
    }

    public int plus(int x, int y, int k) {
        if (!isVariable(x) || !isVariable(y) || !isNumber(k)) {
            return BAD_ARG;
        }
        return append(PLUS, x, y, k);
    }

    public int sum(int x, int y, int z) {
        if (!isVariable(x) || !isVariable(y) || !isVariable(z)) {
            return BAD_ARG;
        }
        return append(SUM, x, y, z);
    }

    public int mask(int x, int y, int k) {
        if (!isVariable(x) || !isVariable(y) || k < 0 || k > GREATEST_MASK) {
            return BAD_ARG;
        }
        return append(MASK, x, y, k);
    }

    public int load(int x, int y, int k) {
        if (!isVariable(x) || !isVariable(y) || !isOffset(k)) {
            return BAD_ARG;
        }
        return append(LOAD, x, y, k);
    }

    public int store(int x, int y, int k) {
        if (!isVariable(x) || !isVariable(y) || !isOffset(k)) {
            return BAD_ARG;
        }
        return append(STORE, x, y, k);
    }

    public int less(int x, int y, int t) {
        if (!isVariable(x) || !isVariable(y) || !isTarget(t)) {
            return BAD_ARG;
        }
        return append(LESS, x, y, t);
    }

    public int jump(int t) {
        if (!isTarget(t)) {
            return BAD_ARG;
        }
        return append(JUMP, t, 0, 0);
    }

    public int size() {
        return count;
    }

    public void clear() {
        count = 0;
    }

    public int setCell(int i, int v) {
        if (!isCell(i) || !isNumber(v)) {
            return BAD_ARG;
        }
        int before = cells[i];
        cells[i] = v;
        return before;
    }

    public int cell(int i) {
        return isCell(i) ? cells[i] : 0;
    }

    public int variable(int x) {
        return isVariable(x) ? values[x] : 0;
    }

    public int run() {
        startVariables();
        int at = 0;
        int worked = 0;
        int outcome = GOES_ON;
        while (worked < MOST_WORKED && at < count && outcome == GOES_ON) {
            outcome = work(at);
            worked++;
            if (outcome == GOES_ON) {
                at = placeAfter(at);
            }
        }
        lastWorked = worked;
        if (outcome == GOES_ON) {
            lastPlace = NO_PLACE;
            lastEnding = at < count ? TIRED : DONE;
        } else {
            lastPlace = at;
            lastEnding = outcome;
        }
        return lastEnding;
    }

    public int ending() {
        return lastEnding;
    }

    public int place() {
        return lastPlace;
    }

    public int worked() {
        return lastWorked;
    }

    public int digest() {
        int total = 0;
        for (int x = 0; x < VARIABLES; x++) {
            total += (x + 1) * values[x];
        }
        for (int i = 0; i < CELLS; i++) {
            total += (i + 5) * cells[i];
        }
        return total;
    }

    private static boolean isVariable(int x) {
        return x >= 0 && x < VARIABLES;
    }

    private static boolean isCell(int i) {
        return i >= 0 && i < CELLS;
    }

    private static boolean isNumber(int n) {
        return n >= LOWEST && n <= HIGHEST;
    }

    private static boolean isOffset(int k) {
        return k >= -FARTHEST_OFFSET && k <= FARTHEST_OFFSET;
    }

    // A target may lie past the program's present end: whether an instruction
    // stands there is asked only when a run gets there.
    private static boolean isTarget(int t) {
        return t >= 0 && t <= MOST_INSTRUCTIONS;
    }

    private int append(int kind, int first, int second, int third) {
        if (count >= MOST_INSTRUCTIONS) {
            return FULL;
        }
        int number = count;
        kinds[number] = kind;
        firsts[number] = first;
        seconds[number] = second;
        thirds[number] = third;
        count = number + 1;
        return number;
    }

    private void startVariables() {
        for (int x = 0; x < VARIABLES; x++) {
            values[x] = nearestToZero(lows[x], highs[x]);
        }
    }

    private static int nearestToZero(int lo, int hi) {
        if (lo > 0) {
            return lo;
        }
        return hi < 0 ? hi : 0;
    }

    private int work(int at) {
        int x = firsts[at];
        int y = seconds[at];
        int third = thirds[at];
        switch (kinds[at]) {
            case CONSTANT:
                return give(x, y);
            case PLUS:
                return give(x, values[y] + third);
            case SUM:
                return give(x, values[y] + values[third]);
            case MASK:
                return give(x, values[y] & third);
            case LOAD:
                return loadCell(x, values[y] + third);
            case STORE:
                return storeCell(x, values[y] + third);
            default:
                return GOES_ON;
        }
    }

    private int give(int x, int n) {
        if (n < lows[x] || n > highs[x]) {
            return REFUSED;
        }
        values[x] = n;
        return GOES_ON;
    }

    private int loadCell(int x, int i) {
        if (!isCell(i)) {
            return OUTSIDE;
        }
        return give(x, cells[i]);
    }

    private int storeCell(int x, int i) {
        if (!isCell(i)) {
            return OUTSIDE;
        }
        cells[i] = values[x];
        return GOES_ON;
    }

    private int placeAfter(int at) {
        switch (kinds[at]) {
            case LESS:
                return values[firsts[at]] < values[seconds[at]] ? thirds[at] : at + 1;
            case JUMP:
                return firsts[at];
            default:
                return at + 1;
        }
    }
}
