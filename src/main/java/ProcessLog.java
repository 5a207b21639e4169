/**
 * A process over the event names 0 to 3 and a log that is held against it.
 *
 * Every expression is kept as a finite machine without empty moves: a count of states, the set of
 * states it may end in, and for each state and event name the set of states that may follow.
 * State 0 is where the machine starts, and no move leads back into it; that lets machines be
 * joined by sharing start states. From every state some end can be reached, because every language
 * has a word and the joins below keep this true; so a log is a beginning of some word exactly when
 * at least one state is reached by it.
 *
 * A machine made from n event pushes has at most 2 to the power n states (event has 2, skip has 1,
 * both multiplies, seq and choice stay below the sum, loop and option keep the count). With at most
 * 6 pushes that is 64, so a set of states fits the bits of a long.
 */
public final class ProcessLog {
    public static final int BAD_ARG = -1;
    public static final int FULL = -2;
    public static final int BAD_STACK = -3;
    public static final int NONE = -4;

    private static final int ACCEPTED = 0;
    private static final int NAMES = 4;
    private static final int NAME_SETS = 16;
    private static final int MAX_STEPS = 16;
    private static final int MAX_DEPTH = 8;
    private static final int MAX_EVENTS = 6;
    private static final int MAX_LOG = 7;
    private static final int MAX_STATES = 64;
    private static final int START = 0;
    private static final long START_ONLY = 1L;

    // Machines 0 to 7 are the stack from its bottom up; two more stand behind them.
    private static final int PROCESS = 8;
    private static final int SPARE = 9;
    private static final int MACHINES = 10;
    private static final int MOVES_OF_ONE = MAX_STATES * NAMES;
    private static final int MOVES_OF_ALL = MACHINES * MOVES_OF_ONE;
    private static final int REACHED_LENGTH = MAX_LOG + 1;

    private final int[] sizes = new int[MACHINES];
    private final long[] ends = new long[MACHINES];
    private final long[] moves = new long[MOVES_OF_ALL];

    private int stackDepth = 0;
    private int stepCount = 0;
    private int eventCount = 0;

    private final int[] log = new int[MAX_LOG];
    // reached[n] is the set of process states that the first n events of the log can lead to.
    private final long[] reached = new long[REACHED_LENGTH];
    private int logLength = 0;

    public ProcessLog() {
        makeSkip(PROCESS);
        reached[0] = START_ONLY;
    }

    public int event(int k) {
        if (!isName(k)) {
            return BAD_ARG;
        }
        if (stepCount >= MAX_STEPS || stackDepth >= MAX_DEPTH || eventCount >= MAX_EVENTS) {
            return FULL;
        }
        makeEvent(stackDepth, k);
        eventCount++;
        return countStep(stackDepth + 1);
    }

    public int skip() {
        if (stepCount >= MAX_STEPS || stackDepth >= MAX_DEPTH) {
            return FULL;
        }
        makeSkip(stackDepth);
        return countStep(stackDepth + 1);
    }

    public int seq() {
        int refusal = refusalWithFewerThan(2);
        if (refusal != ACCEPTED) {
            return refusal;
        }
        makeSeq(stackDepth - 2, stackDepth - 1);
        return countStep(stackDepth - 1);
    }

    public int choice() {
        int refusal = refusalWithFewerThan(2);
        if (refusal != ACCEPTED) {
            return refusal;
        }
        makeChoice(stackDepth - 2, stackDepth - 1);
        return countStep(stackDepth - 1);
    }

    public int both() {
        int refusal = refusalWithFewerThan(2);
        if (refusal != ACCEPTED) {
            return refusal;
        }
        makeBoth(stackDepth - 2, stackDepth - 1);
        return countStep(stackDepth - 1);
    }

    public int loop() {
        int refusal = refusalWithFewerThan(1);
        if (refusal != ACCEPTED) {
            return refusal;
        }
        makeLoop(stackDepth - 1);
        return countStep(stackDepth);
    }

    public int option() {
        int refusal = refusalWithFewerThan(1);
        if (refusal != ACCEPTED) {
            return refusal;
        }
        ends[stackDepth - 1] |= START_ONLY;
        return countStep(stackDepth);
    }

    public int steps() {
        return stepCount;
    }

    public int depth() {
        return stackDepth;
    }

    public void discard() {
        stackDepth = 0;
        stepCount = 0;
        eventCount = 0;
    }

    public int define() {
        if (stackDepth != 1) {
            return BAD_STACK;
        }
        copyMachine(0, PROCESS);
        discard();
        restart();
        return 0;
    }

    public int feed(int k) {
        if (!isName(k)) {
            return BAD_ARG;
        }
        if (logLength >= MAX_LOG) {
            return FULL;
        }
        long after = statesAfter(reached[logLength], k);
        if (after == 0L) {
            return NONE;
        }
        log[logLength] = k;
        logLength++;
        reached[logLength] = after;
        return logLength;
    }

    public int undo() {
        if (logLength == 0) {
            return NONE;
        }
        logLength--;
        return log[logLength];
    }

    public void restart() {
        logLength = 0;
    }

    public int length() {
        return logLength;
    }

    public int at(int i) {
        if (i < 0 || i >= logLength) {
            return NONE;
        }
        return log[i];
    }

    public boolean mayStop() {
        return (reached[logLength] & ends[PROCESS]) != 0L;
    }

    public int next() {
        int names = 0;
        for (int k = 0; k < NAMES; k++) {
            long after = statesAfter(reached[logLength], k);
            if (after != 0L) {
                names |= 1 << k;
            }
        }
        return names;
    }

    public int remaining(int barred) {
        if (barred < 0 || barred >= NAME_SETS) {
            return BAD_ARG;
        }
        return leastToEnd(reached[logLength], barred);
    }

    public int advice() {
        int least = leastToEnd(reached[logLength], 0);
        if (least == 0) {
            return NONE;
        }
        for (int k = 0; k < NAMES; k++) {
            long after = statesAfter(reached[logLength], k);
            int leastAfter = leastToEnd(after, 0);
            if (leastAfter == least - 1) {
                return k;
            }
        }
        return NONE;
    }

    public int needed() {
        int names = 0;
        for (int k = 0; k < NAMES; k++) {
            int leastWithout = leastToEnd(reached[logLength], 1 << k);
            if (leastWithout == NONE) {
                names |= 1 << k;
            }
        }
        return names;
    }

    private static boolean isName(int k) {
        return k >= 0 && k < NAMES;
    }

    private static boolean has(long states, int state) {
        return ((states >>> state) & 1L) != 0L;
    }

    /** No run of calls leaves the array; the index is looked at all the same, so that none can throw. */
    private static int place(int machine, int state, int k) {
        int index = machine * MOVES_OF_ONE + state * NAMES + k;
        return index >= 0 && index < MOVES_OF_ALL ? index : 0;
    }

    private int refusalWithFewerThan(int wanted) {
        if (stepCount >= MAX_STEPS) {
            return FULL;
        }
        return stackDepth < wanted ? BAD_STACK : ACCEPTED;
    }

    private int countStep(int newDepth) {
        stepCount++;
        stackDepth = newDepth;
        return newDepth;
    }

    private void makeSkip(int x) {
        sizes[x] = 1;
        ends[x] = START_ONLY;
        clearMoves(x);
    }

    private void makeEvent(int x, int k) {
        sizes[x] = 2;
        ends[x] = 2L;
        clearMoves(x);
        moves[place(x, START, k)] = 2L;
    }

    private void makeSeq(int x, int y) {
        int shift = sizes[x] - 1;
        long endsOfX = ends[x];
        appendStates(x, y, endsOfX);
        ends[x] = (ends[y] & ~START_ONLY) << shift;
        if (has(ends[y], START)) {
            ends[x] |= endsOfX;
        }
    }

    private void makeChoice(int x, int y) {
        int shift = sizes[x] - 1;
        appendStates(x, y, START_ONLY);
        // The start of y is the start of x now, so its being an end must not be shifted.
        ends[x] |= (ends[y] & ~START_ONLY) << shift;
        ends[x] |= ends[y] & START_ONLY;
    }

    private void makeLoop(int x) {
        for (int k = 0; k < NAMES; k++) {
            long first = moves[place(x, START, k)];
            addMoves(x, ends[x], k, first);
        }
        ends[x] |= START_ONLY;
    }

    /** State (a, b) of the new machine, a of x and b of y, is numbered a * (size of y) + b. */
    private void makeBoth(int x, int y) {
        copyMachine(x, SPARE);
        int sizeOfX = sizes[SPARE];
        int sizeOfY = sizes[y];
        ends[x] = 0L;
        for (int a = 0; a < sizeOfX; a++) {
            for (int b = 0; b < sizeOfY; b++) {
                pairMoves(x, y, a, b);
            }
            if (has(ends[SPARE], a)) {
                ends[x] |= ends[y] << (a * sizeOfY);
            }
        }
        sizes[x] = sizeOfX * sizeOfY;
    }

    private void pairMoves(int x, int y, int a, int b) {
        int sizeOfX = sizes[SPARE];
        int sizeOfY = sizes[y];
        int row = a * sizeOfY;
        for (int k = 0; k < NAMES; k++) {
            long firstMoves = moves[place(SPARE, a, k)];
            long targets = moves[place(y, b, k)] << row;
            for (int to = 0; to < sizeOfX; to++) {
                if (has(firstMoves, to)) {
                    targets |= 1L << (to * sizeOfY + b);
                }
            }
            moves[place(x, row + b, k)] = targets;
        }
    }

    /** Puts the states of y but its start behind those of x; the doors in x move as y's start does. */
    private void appendStates(int x, int y, long doors) {
        int shift = sizes[x] - 1;
        int sizeOfY = sizes[y];
        for (int k = 0; k < NAMES; k++) {
            long first = moves[place(y, START, k)] << shift;
            addMoves(x, doors, k, first);
            for (int s = 1; s < sizeOfY; s++) {
                moves[place(x, shift + s, k)] = moves[place(y, s, k)] << shift;
            }
        }
        sizes[x] += sizeOfY - 1;
    }

    private void addMoves(int x, long fromStates, int k, long targets) {
        int size = sizes[x];
        for (int s = 0; s < size; s++) {
            if (has(fromStates, s)) {
                moves[place(x, s, k)] |= targets;
            }
        }
    }

    private void clearMoves(int x) {
        int size = sizes[x];
        for (int s = 0; s < size; s++) {
            for (int k = 0; k < NAMES; k++) {
                moves[place(x, s, k)] = 0L;
            }
        }
    }

    private void copyMachine(int from, int to) {
        int size = sizes[from];
        sizes[to] = size;
        ends[to] = ends[from];
        for (int s = 0; s < size; s++) {
            for (int k = 0; k < NAMES; k++) {
                moves[place(to, s, k)] = moves[place(from, s, k)];
            }
        }
    }

    private long statesAfter(long states, int k) {
        int size = sizes[PROCESS];
        long after = 0L;
        for (int s = 0; s < size; s++) {
            if (has(states, s)) {
                after |= moves[place(PROCESS, s, k)];
            }
        }
        return after;
    }

    private long withStatesAfter(long states, int barred) {
        long all = states;
        for (int k = 0; k < NAMES; k++) {
            if (!has(barred, k)) {
                all |= statesAfter(states, k);
            }
        }
        return all;
    }

    /** A shortest way to an end visits no state twice, so fewer moves than states are enough. */
    private int leastToEnd(long states, int barred) {
        long seen = states;
        for (int count = 0; count < MAX_STATES; count++) {
            if ((seen & ends[PROCESS]) != 0L) {
                return count;
            }
            seen = withStatesAfter(seen, barred);
        }
        return NONE;
    }
}
