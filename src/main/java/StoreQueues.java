/**
 * Small programs of several threads whose stores reach the memory late.
 *
 * <p>Runs are not walked step by step. Every instruction has one moment at which it takes effect: a
 * load when it finds its value, a fence when it is gone on with, a store when it is taken out of
 * its queue. The moment at which a store is put into its queue is seen by nobody but its own
 * thread, so the outcome of a run hangs on the order of the effects alone. Two instructions of one
 * thread always take effect in the thread's order, but for a store and a later load with no fence
 * between them. Any order of at most 6 effects that keeps to this is the order of some run.
 */
public final class StoreQueues {
    public static final int BAD_ARG = -1;
    public static final int FULL = -2;
    public static final int NONE = -4;

    private static final int THREADS = 4;
    private static final int VARIABLES = 3;
    private static final int GREATEST_VALUE = 3;
    private static final int MOST_INSTRUCTIONS = 6;
    private static final int MOST_ORDERS = 720;

    private static final int STORE = 0;
    private static final int LOAD = 1;
    private static final int FENCE = 2;

    /** In an outcome every value has two bits; those of the loads come first, then the memory. */
    private static final int VALUE_BITS = 2;
    private static final int VALUE_MASK = 3;
    private static final int MEMORY_PLACE = 12;

    /** A set of added fences: bit i stands for a fence right after instruction i of the list. */
    private static final int NO_FENCES = 0;
    private static final int ALL_FENCES = 31;

    /** One list for all threads, thread by thread, so that loads stand in the order of their numbers. */
    private final int[] owner = new int[MOST_INSTRUCTIONS];
    private final int[] kind = new int[MOST_INSTRUCTIONS];
    private final int[] variable = new int[MOST_INSTRUCTIONS];
    private final int[] value = new int[MOST_INSTRUCTIONS];
    private int length = 0;

    /** What follows from the list; it is found when first asked for after a change. */
    private boolean explored = false;
    private int loadCount = 0;
    private int orderCount = 0;
    private final int[] lateSet = new int[MOST_ORDERS];
    private int lateCount = 0;
    private final int[] strictSet = new int[MOST_ORDERS];
    private int strictCount = 0;

    /** Where in the outcome the value stands that a store gives to its variable or that a load finds. */
    private final int[] place = new int[MOST_INSTRUCTIONS];

    /** Bit i of earlier[j]: instruction i has to take effect before instruction j. */
    private final int[] earlier = new int[MOST_INSTRUCTIONS];

    public StoreQueues() {
    }

    public int store(int t, int x, int v) {
        if (!isThread(t) || !isVariable(x) || v < 1 || v > GREATEST_VALUE) {
            return BAD_ARG;
        }
        return append(t, STORE, x, v);
    }

    public int load(int t, int x) {
        if (!isThread(t) || !isVariable(x)) {
            return BAD_ARG;
        }
        return append(t, LOAD, x, 0);
    }

    public int fence(int t) {
        if (!isThread(t)) {
            return BAD_ARG;
        }
        return append(t, FENCE, 0, 0);
    }

    public int drop(int t) {
        if (!isThread(t)) {
            return BAD_ARG;
        }
        int count = instructionsOf(t);
        if (count == 0) {
            return NONE;
        }
        int end = endOf(t);
        for (int i = end; i < length; i++) {
            copyInstruction(i, i - 1);
        }
        length--;
        explored = false;
        return count - 1;
    }

    public void clear() {
        length = 0;
        explored = false;
    }

    public int size() {
        return length;
    }

    public int outcomes() {
        explore();
        return lateCount;
    }

    public int strictOutcomes() {
        explore();
        return strictCount;
    }

    public int outcome(int k) {
        explore();
        return k >= 0 && k < lateCount ? lateSet[k] : NONE;
    }

    public boolean possible(int outcome) {
        explore();
        return contains(lateSet, lateCount, outcome);
    }

    public boolean strictlyPossible(int outcome) {
        explore();
        return contains(strictSet, strictCount, outcome);
    }

    public int surprise() {
        explore();
        for (int i = 0; i < lateCount; i++) {
            if (!contains(strictSet, strictCount, lateSet[i])) {
                return lateSet[i];
            }
        }
        return NONE;
    }

    public int finds(int k) {
        explore();
        if (!isLoad(k)) {
            return NONE;
        }
        int loadPlace = placeOfLoad(k);
        return valuesAt(loadPlace);
    }

    public int ends(int x) {
        if (!isVariable(x)) {
            return BAD_ARG;
        }
        explore();
        int memoryPlace = placeOfVariable(x);
        return valuesAt(memoryPlace);
    }

    public boolean implies(int k, int v, int j, int w) {
        explore();
        if (!isLoad(k) || !isLoad(j)) {
            return false;
        }
        int placeK = placeOfLoad(k);
        int placeJ = placeOfLoad(j);
        for (int i = 0; i < lateCount; i++) {
            if (valueAt(lateSet[i], placeK) == v && valueAt(lateSet[i], placeJ) != w) {
                return false;
            }
        }
        return true;
    }

    public int fencesNeeded() {
        explore();
        int least = MOST_INSTRUCTIONS;
        for (int fences = NO_FENCES; fences <= ALL_FENCES; fences++) {
            int number = bitCount(fences);
            if (number < least && leavesOnlyStrict(fences)) {
                least = number;
            }
        }
        return least;
    }

    private boolean isThread(int t) {
        return t >= 0 && t < THREADS;
    }

    private boolean isVariable(int x) {
        return x >= 0 && x < VARIABLES;
    }

    private boolean isLoad(int k) {
        return k >= 0 && k < loadCount;
    }

    private int instructionsOf(int t) {
        int count = 0;
        for (int i = 0; i < length; i++) {
            if (owner[i] == t) {
                count++;
            }
        }
        return count;
    }

    /** The index in the list right behind the last instruction of thread t. */
    private int endOf(int t) {
        int end = 0;
        for (int i = 0; i < length; i++) {
            if (owner[i] <= t) {
                end = i + 1;
            }
        }
        return end;
    }

    private int append(int t, int what, int x, int v) {
        if (length >= MOST_INSTRUCTIONS) {
            return FULL;
        }
        int end = endOf(t);
        for (int i = length; i > end; i--) {
            copyInstruction(i - 1, i);
        }
        owner[end] = t;
        kind[end] = what;
        variable[end] = x;
        value[end] = v;
        length++;
        explored = false;
        return instructionsOf(t);
    }

    private void copyInstruction(int from, int to) {
        owner[to] = owner[from];
        kind[to] = kind[from];
        variable[to] = variable[from];
        value[to] = value[from];
    }

    private void explore() {
        if (explored) {
            return;
        }
        decidePlaces();
        countOrders();
        lateCount = collect(NO_FENCES, lateSet);
        // With a fence after every instruction no store waits while its thread goes on: a strict run.
        strictCount = collect(ALL_FENCES, strictSet);
        explored = true;
    }

    private void decidePlaces() {
        loadCount = 0;
        for (int i = 0; i < length; i++) {
            if (kind[i] == LOAD) {
                place[i] = placeOfLoad(loadCount);
                loadCount++;
            } else {
                place[i] = placeOfVariable(variable[i]);
            }
        }
    }

    private void countOrders() {
        orderCount = 1;
        for (int i = 2; i <= length; i++) {
            orderCount = orderCount * i;
        }
    }

    /** Fills the set with the outcomes under the added fences, in rising order; answers their number. */
    private int collect(int fences, int[] set) {
        decideEarlier(fences);
        int count = 0;
        for (int order = 0; order < orderCount; order++) {
            int found = outcomeOf(order);
            if (found != NONE) {
                count = insert(set, count, found);
            }
        }
        return count;
    }

    private boolean leavesOnlyStrict(int fences) {
        decideEarlier(fences);
        for (int order = 0; order < orderCount; order++) {
            int found = outcomeOf(order);
            if (found != NONE && !contains(strictSet, strictCount, found)) {
                return false;
            }
        }
        return true;
    }

    private void decideEarlier(int fences) {
        for (int j = 0; j < length; j++) {
            earlier[j] = 0;
            for (int i = 0; i < j; i++) {
                if (owner[i] == owner[j] && staysBefore(i, j, fences)) {
                    earlier[j] = earlier[j] | (1 << i);
                }
            }
        }
    }

    /** For i before j in one thread. A fence of the program itself needs no look: it is ordered with both. */
    private boolean staysBefore(int i, int j, int fences) {
        int fencesBetween = (fences >> i) & ((1 << (j - i)) - 1);
        return kind[i] != STORE || kind[j] != LOAD || fencesBetween != 0;
    }

    /**
     * The outcome of the order with this number, or NONE if no run has that order. The state on the
     * way has the form of an outcome: the values found so far and the memory as it is then.
     */
    private int outcomeOf(int order) {
        int rest = order;
        int done = 0;
        int state = 0;
        for (int left = length; left > 0; left--) {
            int i = pickUndone(done, rest % left);
            rest = rest / left;
            if ((earlier[i] & ~done) != 0) {
                return NONE;
            }
            if (kind[i] != FENCE) {
                int moved = kind[i] == STORE ? value[i] : foundBy(i, done, state);
                state = (state & ~(VALUE_MASK << place[i])) | (moved << place[i]);
            }
            done = done | (1 << i);
        }
        return state;
    }

    /** The instruction that has this many others not yet done before it in the list. */
    private int pickUndone(int done, int skipped) {
        int toSkip = skipped;
        for (int i = 0; i < length; i++) {
            if ((done & (1 << i)) == 0) {
                if (toSkip == 0) {
                    return i;
                }
                toSkip--;
            }
        }
        return 0;
    }

    /** The thread's earlier stores that are not done are its queue; the last one to the variable counts. */
    private int foundBy(int load, int done, int state) {
        int memoryPlace = placeOfVariable(variable[load]);
        int found = valueAt(state, memoryPlace);
        for (int i = 0; i < load; i++) {
            if (owner[i] == owner[load] && kind[i] == STORE
                    && variable[i] == variable[load] && (done & (1 << i)) == 0) {
                found = value[i];
            }
        }
        return found;
    }

    private int placeOfLoad(int k) {
        return VALUE_BITS * k;
    }

    private int placeOfVariable(int x) {
        return MEMORY_PLACE + VALUE_BITS * x;
    }

    private int valueAt(int state, int at) {
        return (state >> at) & VALUE_MASK;
    }

    private int valuesAt(int at) {
        int values = 0;
        for (int i = 0; i < lateCount; i++) {
            values = values | (1 << valueAt(lateSet[i], at));
        }
        return values;
    }

    /** The index of the first member of a rising set that is not less than the number. */
    private int firstNotLess(int[] set, int count, int number) {
        int at = 0;
        while (at < count && set[at] < number) {
            at++;
        }
        return at;
    }

    private boolean contains(int[] set, int count, int number) {
        int at = firstNotLess(set, count, number);
        return at < count && set[at] == number;
    }

    private int insert(int[] set, int count, int number) {
        int at = firstNotLess(set, count, number);
        boolean there = at < count && set[at] == number;
        if (there || count >= MOST_ORDERS) {
            return count;
        }
        for (int i = count; i > at; i--) {
            set[i] = set[i - 1];
        }
        set[at] = number;
        return count + 1;
    }

    private int bitCount(int bits) {
        int count = 0;
        for (int i = 0; i < MOST_INSTRUCTIONS; i++) {
            count = count + ((bits >> i) & 1);
        }
        return count;
    }
}
