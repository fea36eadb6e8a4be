/** Inputs that are given and queries that are computed from them and from each other. */
public final class RevisionQueries {
    public static final int BAD_ARG = -1;
    public static final int FULL = -2;
    public static final int BAD_PILE = -3;
    public static final int CIRCULAR = -4;

    private static final int INPUTS = 6;
    private static final int QUERIES = 8;
    private static final int MAX_TOKENS = 10;
    private static final int ALL_TOKENS = QUERIES * MAX_TOKENS;

    // The first four kinds are the numbers that apply takes, so that an op is a kind as it stands.
    private static final int ADD = 0;
    private static final int SUB = 1;
    private static final int MUL = 2;
    private static final int LESS = 3;
    private static final int NUM = 4;
    private static final int INPUT = 5;
    private static final int QUERY = 6;
    private static final int CHOOSE = 7;

    private final int[] inputs = new int[INPUTS];

    // The body of query q lies from q * MAX_TOKENS on.
    private final int[] bodyKind = new int[ALL_TOKENS];
    private final int[] bodyFirst = new int[ALL_TOKENS];
    private final int[] bodySecond = new int[ALL_TOKENS];
    private final int[] bodyLength = new int[QUERIES];

    private final int[] draftKind = new int[MAX_TOKENS];
    private final int[] draftFirst = new int[MAX_TOKENS];
    private final int[] draftSecond = new int[MAX_TOKENS];
    private int draftLength;
    private int draftHeight;

    // What follows is worked out anew by settleAll for each call that reads it, so it is never
    // out of date and need not be kept in step with the inputs and bodies.
    private final boolean[] settled = new boolean[QUERIES];
    private final int[] settledValue = new int[QUERIES];
    private final int[] settledNeeds = new int[QUERIES];
    private final boolean[] settledBefore = new boolean[QUERIES];
    private final int[] valueBefore = new int[QUERIES];

    // Each token puts at most one number on, so a pile is never higher than a body is long.
    private final int[] pile = new int[MAX_TOKENS];
    private int pileHeight;
    private int needed;

    public RevisionQueries() {
        for (int q = 0; q < QUERIES; q++) {
            bodyKind[q * MAX_TOKENS] = NUM;
            bodyLength[q] = 1;
        }
    }

    public int set(int i, int v) {
        if (!isInput(i)) {
            return BAD_ARG;
        }
        if (inputs[i] == v) {
            return 0;
        }
        inputs[i] = v;
        return 1;
    }

    public int get(int i) {
        return isInput(i) ? inputs[i] : 0;
    }

    public int num(int n) {
        return append(NUM, n, 0);
    }

    public int input(int i) {
        return isInput(i) ? append(INPUT, i, 0) : BAD_ARG;
    }

    public int query(int k) {
        return isQuery(k) ? append(QUERY, k, 0) : BAD_ARG;
    }

    public int choose(int k, int m) {
        return isQuery(k) && isQuery(m) ? append(CHOOSE, k, m) : BAD_ARG;
    }

    public int apply(int op) {
        return op >= ADD && op <= LESS ? append(op, 0, 0) : BAD_ARG;
    }

    public void scrap() {
        draftLength = 0;
        draftHeight = 0;
    }

    public int drafted() {
        return draftLength;
    }

    public int finish(int q) {
        if (!isQuery(q)) {
            return BAD_ARG;
        }
        if (draftHeight != 1) {
            return BAD_PILE;
        }
        int start = q * MAX_TOKENS;
        int length = draftLength;
        for (int t = 0; t < length; t++) {
            bodyKind[start + t] = draftKind[t];
            bodyFirst[start + t] = draftFirst[t];
            bodySecond[start + t] = draftSecond[t];
        }
        bodyLength[q] = length;
        scrap();
        return length;
    }

    public int value(int q) {
        if (!isQuery(q)) {
            return 0;
        }
        settleAll();
        return settled[q] ? settledValue[q] : 0;
    }

    public boolean circular(int q) {
        if (!isQuery(q)) {
            return false;
        }
        settleAll();
        return !settled[q];
    }

    public int needs(int q) {
        if (!isQuery(q)) {
            return BAD_ARG;
        }
        settleAll();
        return settled[q] ? settledNeeds[q] : CIRCULAR;
    }

    public int total() {
        settleAll();
        int sum = 0;
        for (int q = 0; q < QUERIES; q++) {
            if (settled[q]) {
                sum += (q + 1) * settledValue[q];
            }
        }
        return sum;
    }

    public int circulars() {
        settleAll();
        int bits = 0;
        for (int q = 0; q < QUERIES; q++) {
            if (!settled[q]) {
                bits |= 1 << q;
            }
        }
        return bits;
    }

    public int stirred(int i, int v) {
        if (!isInput(i)) {
            return BAD_ARG;
        }
        settleAll();
        rememberSettled();
        int kept = inputs[i];
        inputs[i] = v;
        settleAll();
        inputs[i] = kept;
        return countChanged();
    }

    private static boolean isInput(int i) {
        return i >= 0 && i < INPUTS;
    }

    private static boolean isQuery(int q) {
        return q >= 0 && q < QUERIES;
    }

    private int append(int kind, int first, int second) {
        if (draftLength >= MAX_TOKENS) {
            return FULL;
        }
        int taken = takenBy(kind);
        if (draftHeight < taken) {
            return BAD_PILE;
        }
        draftKind[draftLength] = kind;
        draftFirst[draftLength] = first;
        draftSecond[draftLength] = second;
        draftLength++;
        draftHeight += 1 - taken;
        return draftHeight;
    }

    /** How many numbers a token of this kind takes off the pile; every kind puts one on. */
    private static int takenBy(int kind) {
        if (kind <= LESS) {
            return 2;
        }
        return kind == CHOOSE ? 1 : 0;
    }

    /**
     * Settles every query that is not circular. A query that is not circular needs no chain of
     * queries longer than there are queries, so as many rounds as queries settle all of them; a
     * circular one always waits for another circular one and is never settled.
     */
    private void settleAll() {
        for (int q = 0; q < QUERIES; q++) {
            settled[q] = false;
        }
        for (int round = 0; round < QUERIES; round++) {
            for (int q = 0; q < QUERIES; q++) {
                if (!settled[q]) {
                    tryToSettle(q);
                }
            }
        }
    }

    private void tryToSettle(int q) {
        int start = q * MAX_TOKENS;
        int end = start + bodyLength[q];
        pileHeight = 0;
        needed = 0;
        for (int t = start; t < end; t++) {
            if (!workOff(bodyKind[t], bodyFirst[t], bodySecond[t])) {
                return;
            }
        }
        settled[q] = true;
        settledValue[q] = pile[0];
        settledNeeds[q] = needed;
    }

    /** Works off one token; false if it needs a query that is not settled. */
    private boolean workOff(int kind, int first, int second) {
        // What a token puts on always takes the place of the lowest number that it took off.
        int place = pileHeight - takenBy(kind);
        pileHeight = place + 1;
        switch (kind) {
            case NUM:
                pile[place] = first;
                return true;
            case INPUT:
                pile[place] = inputs[first];
                needed |= 1 << first;
                return true;
            case QUERY:
                return putQuery(place, first);
            case CHOOSE:
                return putQuery(place, pile[place] != 0 ? first : second);
            default:
                pile[place] = combine(kind, pile[place], pile[place + 1]);
                return true;
        }
    }

    private boolean putQuery(int place, int k) {
        if (!settled[k]) {
            return false;
        }
        pile[place] = settledValue[k];
        needed |= settledNeeds[k] | 1 << (INPUTS + k);
        return true;
    }

    private static int combine(int op, int x, int y) {
        switch (op) {
            case ADD:
                return x + y;
            case SUB:
                return x - y;
            case MUL:
                return x * y;
            default:
                return x < y ? 1 : 0;
        }
    }

    private void rememberSettled() {
        for (int q = 0; q < QUERIES; q++) {
            settledBefore[q] = settled[q];
            valueBefore[q] = settledValue[q];
        }
    }

    private int countChanged() {
        int changed = 0;
        for (int q = 0; q < QUERIES; q++) {
            boolean turned = settled[q] != settledBefore[q];
            // The value of a circular query is a leftover, so it counts only if q is settled.
            if (turned || settled[q] && settledValue[q] != valueBefore[q]) {
                changed++;
            }
        }
        return changed;
    }
}
