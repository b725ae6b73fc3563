/** Each promise of the document with ordinary inputs, its edges and wrong inputs; the due answers are worked out by hand. */
public final class PromiseTest {
    private static final int[] WRONG_THREADS = {-1, 4, 5, -4, Integer.MIN_VALUE, Integer.MAX_VALUE};
    private static final int[] WRONG_VARIABLES = {-1, 3, 4, -3, Integer.MIN_VALUE, Integer.MAX_VALUE};
    private static final int[] WRONG_VALUES = {0, 4, 5, -1, Integer.MIN_VALUE, Integer.MAX_VALUE};

    private static int wrong = 0;

    public static void main(String[] args) {
        constants();
        newObject();
        store();
        load();
        fence();
        drop();
        clear();
        size();
        outcomes();
        strictOutcomes();
        outcome();
        possible();
        strictlyPossible();
        surprise();
        finds();
        ends();
        implies();
        fencesNeeded();
        refusedCallsChangeNothing();
        questionsChangeNothing();
        objectsAreApart();
        System.out.println(wrong == 0 ? "all promises hold" : wrong + " answers are not as due");
        if (wrong != 0) {
            System.exit(1);
        }
    }

    private static void due(String what, long got, long want) {
        if (got != want) {
            wrong++;
            System.out.println(what + " answered " + got + ", due is " + want);
        }
    }

    private static void due(String what, boolean got, boolean want) {
        due(what, got ? 1 : 0, want ? 1 : 0);
    }

    /** The outcome with these values in the variables and these values found by the loads. */
    private static int code(int x0, int x1, int x2, int... found) {
        int sum = 4096 * (x0 + 4 * x1 + 16 * x2);
        int weight = 1;
        for (int value : found) {
            sum += weight * value;
            weight *= 4;
        }
        return sum;
    }

    /** Each thread stores to its own variable and looks at the other's. */
    private static StoreQueues crossing() {
        StoreQueues q = new StoreQueues();
        q.store(0, 0, 1);
        q.load(0, 1);
        q.store(1, 1, 1);
        q.load(1, 0);
        return q;
    }

    private static StoreQueues crossingWithFences(boolean first, boolean second) {
        StoreQueues q = new StoreQueues();
        q.store(0, 0, 1);
        if (first) {
            q.fence(0);
        }
        q.load(0, 1);
        q.store(1, 1, 1);
        if (second) {
            q.fence(1);
        }
        q.load(1, 0);
        return q;
    }

    /** Thread 0 writes a message and then a flag; thread 1 looks at the flag and then at the message. */
    private static StoreQueues message() {
        StoreQueues q = new StoreQueues();
        q.store(0, 0, 1);
        q.store(0, 1, 1);
        q.load(1, 1);
        q.load(1, 0);
        return q;
    }

    private static void constants() {
        due("BAD_ARG", StoreQueues.BAD_ARG, -1);
        due("FULL", StoreQueues.FULL, -2);
        due("NONE", StoreQueues.NONE, -4);
    }

    private static void newObject() {
        StoreQueues q = new StoreQueues();
        due("new: size", q.size(), 0);
        for (int t = 0; t < 4; t++) {
            due("new: drop", q.drop(t), -4);
        }
        due("new: outcomes", q.outcomes(), 1);
        due("new: strictOutcomes", q.strictOutcomes(), 1);
        due("new: outcome(0)", q.outcome(0), 0);
        due("new: outcome(1)", q.outcome(1), -4);
        due("new: possible(0)", q.possible(0), true);
        due("new: strictlyPossible(0)", q.strictlyPossible(0), true);
        due("new: surprise", q.surprise(), -4);
        due("new: finds(0)", q.finds(0), -4);
        for (int x = 0; x < 3; x++) {
            due("new: ends", q.ends(x), 1);
        }
        due("new: implies", q.implies(0, 0, 0, 0), false);
        due("new: fencesNeeded", q.fencesNeeded(), 0);
    }

    private static void store() {
        for (int t = 0; t < 4; t++) {
            for (int x = 0; x < 3; x++) {
                for (int v = 1; v < 4; v++) {
                    StoreQueues q = new StoreQueues();
                    due("store", q.store(t, x, v), 1);
                    due("store: ends", q.ends(x), 1 << v);
                    due("store: outcome", q.outcome(0), 4096 * v << 2 * x);
                    due("store: of the thread named", q.drop(t), 0);
                }
            }
        }
        StoreQueues q = new StoreQueues();
        due("store: counts its own thread", q.store(2, 0, 1), 1);
        due("store: counts its own thread", q.store(1, 0, 1), 1);
        due("store: counts its own thread", q.store(2, 0, 2), 2);
        due("store: comes last in its thread", q.ends(0), 2 | 4);
        for (int bad : WRONG_THREADS) {
            due("store: bad thread", q.store(bad, 0, 1), -1);
        }
        for (int bad : WRONG_VARIABLES) {
            due("store: bad variable", q.store(0, bad, 1), -1);
        }
        for (int bad : WRONG_VALUES) {
            due("store: bad value", q.store(0, 0, bad), -1);
        }
        fill(q);
        due("store: full", q.store(3, 2, 3), -2);
        due("store: bad thread before full", q.store(4, 0, 1), -1);
        due("store: bad variable before full", q.store(0, 3, 1), -1);
        due("store: bad value before full", q.store(0, 0, 0), -1);
    }

    private static void load() {
        for (int t = 0; t < 4; t++) {
            for (int x = 0; x < 3; x++) {
                StoreQueues q = new StoreQueues();
                q.store(t, x, 3);
                due("load", q.load(t, x), 2);
                due("load: finds", q.finds(0), 8);
                due("load: finds in another variable", loadAfter(q, t, (x + 1) % 3), 1);
            }
        }
        StoreQueues q = new StoreQueues();
        due("load: counts its own thread", q.load(3, 0), 1);
        due("load: counts its own thread", q.load(0, 0), 1);
        due("load: counts its own thread", q.load(3, 1), 2);
        for (int bad : WRONG_THREADS) {
            due("load: bad thread", q.load(bad, 0), -1);
        }
        for (int bad : WRONG_VARIABLES) {
            due("load: bad variable", q.load(0, bad), -1);
        }
        fill(q);
        due("load: full", q.load(0, 0), -2);
        due("load: bad thread before full", q.load(-1, 0), -1);
        due("load: bad variable before full", q.load(0, -1), -1);
    }

    private static int loadAfter(StoreQueues q, int t, int x) {
        q.load(t, x);
        return q.finds(1);
    }

    private static void fence() {
        StoreQueues q = new StoreQueues();
        due("fence: first", q.fence(1), 1);
        due("fence: second", q.fence(1), 2);
        due("fence: other thread", q.fence(3), 1);
        due("fence: nothing follows", q.outcomes(), 1);
        due("fence: is no load", q.finds(0), -4);
        for (int bad : WRONG_THREADS) {
            due("fence: bad thread", q.fence(bad), -1);
        }
        fill(q);
        due("fence: full", q.fence(0), -2);
        due("fence: bad thread before full", q.fence(4), -1);

        due("fence: between in both threads", crossingWithFences(true, true).surprise(), -4);
        due("fence: between in the first", crossingWithFences(true, false).surprise(), code(1, 1, 0, 0, 0));
        due("fence: between in the second", crossingWithFences(false, true).surprise(), code(1, 1, 0, 0, 0));

        StoreQueues useless = new StoreQueues();
        for (int t = 0; t < 2; t++) {
            useless.fence(t);
            useless.store(t, t, 1);
            useless.load(t, 1 - t);
        }
        due("fence: before the store forbids nothing", useless.surprise(), code(1, 1, 0, 0, 0));
    }

    private static void drop() {
        StoreQueues q = new StoreQueues();
        q.store(1, 0, 1);
        q.store(1, 0, 2);
        q.store(2, 1, 3);
        q.load(0, 2);
        due("drop: leaves one", q.drop(1), 1);
        due("drop: took the last one", q.ends(0), 2);
        due("drop: other threads stay", q.ends(1), 8);
        due("drop: size", q.size(), 3);
        due("drop: leaves none", q.drop(1), 0);
        due("drop: none there", q.drop(1), -4);
        due("drop: never had one", q.drop(3), -4);
        due("drop: size", q.size(), 2);
        due("drop: load goes", q.drop(0), 0);
        due("drop: no load left", q.finds(0), -4);
        for (int bad : WRONG_THREADS) {
            due("drop: bad thread", q.drop(bad), -1);
        }
        due("drop: last of all", q.drop(2), 0);
        due("drop: empty", q.size(), 0);
        due("drop: empty program", q.outcome(0), 0);
        fill(q);
        due("drop: from a full thread", q.drop(0), 5);
        due("drop: makes room", q.fence(3), 1);
    }

    private static void clear() {
        StoreQueues q = crossing();
        q.outcomes();
        q.clear();
        due("clear: size", q.size(), 0);
        due("clear: outcomes", q.outcomes(), 1);
        due("clear: outcome", q.outcome(0), 0);
        due("clear: loads", q.finds(0), -4);
        for (int t = 0; t < 4; t++) {
            due("clear: threads", q.drop(t), -4);
        }
        q.clear();
        due("clear: twice", q.size(), 0);
        due("clear: begins again", q.store(0, 1, 2), 1);
        due("clear: new program", q.outcome(0), code(0, 2, 0));
    }

    private static void size() {
        StoreQueues q = new StoreQueues();
        int[] threads = {3, 0, 2, 0, 1, 3};
        for (int i = 0; i < 6; i++) {
            due("size", q.size(), i);
            q.fence(threads[i]);
        }
        due("size: full", q.size(), 6);
        q.fence(0);
        due("size: after full", q.size(), 6);
        q.drop(0);
        due("size: after drop", q.size(), 5);
    }

    private static void outcomes() {
        due("outcomes: crossing", crossing().outcomes(), 4);
        due("outcomes: message", message().outcomes(), 3);
        StoreQueues alone = new StoreQueues();
        alone.store(0, 0, 1);
        alone.load(0, 0);
        alone.store(0, 0, 2);
        alone.load(0, 0);
        due("outcomes: one thread", alone.outcomes(), 1);
        StoreQueues same = new StoreQueues();
        same.store(0, 0, 1);
        same.store(1, 0, 1);
        due("outcomes: different ones only", same.outcomes(), 1);
        StoreQueues order = new StoreQueues();
        order.store(0, 0, 1);
        order.store(1, 0, 2);
        order.store(2, 0, 3);
        due("outcomes: last store", order.outcomes(), 3);
    }

    private static void strictOutcomes() {
        due("strictOutcomes: crossing", crossing().strictOutcomes(), 3);
        due("strictOutcomes: message", message().strictOutcomes(), 3);
        due("strictOutcomes: fences", crossingWithFences(true, false).strictOutcomes(), 3);
        due("strictOutcomes: fences", crossingWithFences(true, true).strictOutcomes(), 3);
    }

    private static void outcome() {
        StoreQueues q = crossing();
        due("outcome(0)", q.outcome(0), code(1, 1, 0, 0, 0));
        due("outcome(1)", q.outcome(1), code(1, 1, 0, 1, 0));
        due("outcome(2)", q.outcome(2), code(1, 1, 0, 0, 1));
        due("outcome(3)", q.outcome(3), code(1, 1, 0, 1, 1));
        int[] none = {4, 5, 720, -1, Integer.MIN_VALUE, Integer.MAX_VALUE};
        for (int k : none) {
            due("outcome: none", q.outcome(k), -4);
        }
        StoreQueues many = new StoreQueues();
        many.store(3, 2, 3);
        many.load(3, 2);
        many.load(0, 0);
        many.load(3, 2);
        many.load(3, 2);
        many.load(3, 2);
        due("outcome: loads thread by thread", many.outcome(0), code(0, 0, 3, 0, 3, 3, 3, 3));
    }

    private static void possible() {
        StoreQueues q = crossing();
        for (int a = 0; a < 4; a++) {
            for (int b = 0; b < 4; b++) {
                due("possible", q.possible(code(1, 1, 0, a, b)), a < 2 && b < 2);
                due("possible: other memory", q.possible(code(1, 0, 0, a, b)), false);
            }
        }
        due("possible: third load", q.possible(code(1, 1, 0, 0, 0, 1)), false);
        int[] no = {-1, -4, 0, 4096 * 64, 4096 * 64 + code(1, 1, 0, 0, 0), code(1, 1, 0, 0, 0) - 4096 * 64,
            Integer.MIN_VALUE, Integer.MIN_VALUE + code(1, 1, 0, 0, 0), Integer.MAX_VALUE};
        for (int outcome : no) {
            due("possible: out of range", q.possible(outcome), false);
            due("strictlyPossible: out of range", q.strictlyPossible(outcome), false);
        }
    }

    private static void strictlyPossible() {
        StoreQueues q = crossing();
        due("strictlyPossible: late only", q.strictlyPossible(code(1, 1, 0, 0, 0)), false);
        due("strictlyPossible", q.strictlyPossible(code(1, 1, 0, 0, 1)), true);
        due("strictlyPossible", q.strictlyPossible(code(1, 1, 0, 1, 0)), true);
        due("strictlyPossible", q.strictlyPossible(code(1, 1, 0, 1, 1)), true);
        due("strictlyPossible: never", q.strictlyPossible(code(1, 1, 0, 2, 0)), false);

        StoreQueues again = new StoreQueues();
        again.store(0, 2, 1);
        for (int i = 0; i < 3; i++) {
            again.load(1, 2);
        }
        due("strictlyPossible: first program", again.strictlyPossible(code(0, 0, 1, 1, 1, 1)), true);
        again.clear();
        again.store(0, 0, 1);
        again.load(0, 1);
        again.store(1, 1, 1);
        again.load(1, 0);
        due("strictlyPossible: of the first program only", again.strictlyPossible(code(0, 0, 1, 1, 1, 1)), false);
    }

    private static void surprise() {
        due("surprise: crossing", crossing().surprise(), code(1, 1, 0, 0, 0));
        due("surprise: message", message().surprise(), -4);

        // Each thread finds its own store early and the other's not yet.
        StoreQueues own = new StoreQueues();
        own.store(0, 0, 1);
        own.load(0, 0);
        own.load(0, 1);
        own.store(1, 1, 2);
        own.load(1, 1);
        own.load(1, 0);
        due("surprise: own stores", own.surprise(), code(1, 2, 0, 1, 0, 2, 0));

        // If thread 1 is the last to store to variable 1, a strict run has its load find 1.
        StoreQueues greatest = new StoreQueues();
        greatest.store(0, 0, 2);
        greatest.store(0, 0, 1);
        greatest.store(0, 1, 1);
        greatest.store(1, 0, 1);
        greatest.store(1, 1, 3);
        greatest.load(1, 0);
        due("surprise: outcomes", greatest.outcomes(), 4);
        due("surprise: strictOutcomes", greatest.strictOutcomes(), 3);
        due("surprise: the greatest outcome", greatest.surprise(), code(1, 3, 0, 2));
        due("surprise: one fence before the load", greatest.fencesNeeded(), 1);

        // A load may not come after a later store of its thread.
        StoreQueues loadsFirst = new StoreQueues();
        loadsFirst.load(0, 1);
        loadsFirst.store(0, 0, 1);
        loadsFirst.load(1, 0);
        loadsFirst.store(1, 1, 1);
        due("surprise: loads first", loadsFirst.surprise(), -4);
        due("surprise: loads first", loadsFirst.possible(code(1, 1, 0, 1, 1)), false);

        // Two writers, two readers: all agree on the order of the stores.
        StoreQueues readers = new StoreQueues();
        readers.store(0, 0, 1);
        readers.store(1, 1, 1);
        readers.load(2, 0);
        readers.load(2, 1);
        readers.load(3, 1);
        readers.load(3, 0);
        due("surprise: readers", readers.surprise(), -4);
        due("surprise: readers disagree", readers.possible(code(1, 1, 0, 1, 0, 1, 0)), false);
    }

    private static void finds() {
        StoreQueues q = crossing();
        due("finds(0)", q.finds(0), 3);
        due("finds(1)", q.finds(1), 3);
        int[] none = {2, 3, 6, 16, -1, Integer.MIN_VALUE, Integer.MAX_VALUE};
        for (int k : none) {
            due("finds: no such load", q.finds(k), -4);
        }

        StoreQueues queue = new StoreQueues();
        queue.store(0, 0, 1);
        queue.store(0, 0, 2);
        queue.store(0, 1, 3);
        queue.load(0, 0);
        due("finds: the last store to the variable in the queue", queue.finds(0), 4);
        queue.store(1, 0, 3);
        due("finds: its own or a later one in the memory", queue.finds(0), 4 | 8);
        queue.load(2, 0);
        due("finds: another thread finds any", queue.finds(1), 15);

        StoreQueues six = new StoreQueues();
        six.store(0, 0, 2);
        for (int i = 0; i < 5; i++) {
            six.load(1, 0);
        }
        due("finds: the last of five", six.finds(4), 1 | 4);
        due("finds: no sixth", six.finds(5), -4);

        StoreQueues later = new StoreQueues();
        later.load(0, 0);
        later.store(0, 0, 3);
        due("finds: not a later store of its thread", later.finds(0), 1);
    }

    private static void ends() {
        StoreQueues q = new StoreQueues();
        q.store(0, 0, 1);
        q.store(0, 0, 2);
        q.store(1, 0, 3);
        q.store(1, 2, 3);
        q.load(2, 1);
        due("ends: last of each thread", q.ends(0), 4 | 8);
        due("ends: never stored to", q.ends(1), 1);
        due("ends: one store", q.ends(2), 8);
        for (int bad : WRONG_VARIABLES) {
            due("ends: bad variable", q.ends(bad), -1);
        }
    }

    private static void implies() {
        StoreQueues q = message();
        due("implies: flag, so message", q.implies(0, 1, 1, 1), true);
        due("implies: not the other way", q.implies(1, 1, 0, 1), false);
        due("implies: no message, so no flag", q.implies(1, 0, 0, 0), true);
        due("implies: no flag says nothing", q.implies(0, 0, 1, 0), false);
        due("implies: no flag says nothing", q.implies(0, 0, 1, 1), false);
        due("implies: itself", q.implies(0, 1, 0, 1), true);
        due("implies: itself, another value", q.implies(0, 1, 0, 0), false);
        int[] never = {2, 3, 4, 5, -1, -3, Integer.MIN_VALUE, Integer.MAX_VALUE};
        for (int v : never) {
            due("implies: never found", q.implies(0, v, 1, 1), true);
            due("implies: never found", q.implies(0, v, 1, v), true);
            due("implies: never found after", q.implies(0, 1, 1, v), false);
        }
        int[] none = {2, 6, -1, Integer.MIN_VALUE, Integer.MAX_VALUE};
        for (int k : none) {
            due("implies: no first load", q.implies(k, 1, 1, 1), false);
            due("implies: no second load", q.implies(0, 1, k, 1), false);
            due("implies: no load, never found", q.implies(0, 7, k, 1), false);
            due("implies: no loads", q.implies(k, 0, k, 0), false);
        }
        due("implies: late stores count", crossing().implies(0, 0, 1, 1), false);
        due("implies: fenced", crossingWithFences(true, true).implies(0, 0, 1, 1), true);
    }

    private static void fencesNeeded() {
        due("fencesNeeded: crossing", crossing().fencesNeeded(), 2);
        due("fencesNeeded: message", message().fencesNeeded(), 0);
        due("fencesNeeded: one there", crossingWithFences(true, false).fencesNeeded(), 1);
        due("fencesNeeded: one there", crossingWithFences(false, true).fencesNeeded(), 1);
        due("fencesNeeded: both there", crossingWithFences(true, true).fencesNeeded(), 0);

        StoreQueues ring = new StoreQueues();
        for (int t = 0; t < 3; t++) {
            ring.store(t, t, 1);
            ring.load(t, (t + 1) % 3);
        }
        due("fencesNeeded: ring of three, no room left", ring.fencesNeeded(), 3);
        due("fencesNeeded: puts none in", ring.size(), 6);

        // One fence between the stores and the loads of each thread does for all pairs.
        StoreQueues twice = new StoreQueues();
        twice.store(0, 0, 1);
        twice.store(0, 2, 1);
        twice.load(0, 1);
        twice.load(0, 1);
        twice.store(1, 1, 1);
        twice.load(1, 0);
        due("fencesNeeded: several pairs", twice.fencesNeeded(), 2);

        StoreQueues alone = new StoreQueues();
        alone.store(0, 0, 1);
        alone.load(0, 1);
        alone.store(0, 1, 2);
        alone.load(0, 0);
        due("fencesNeeded: one thread", alone.fencesNeeded(), 0);
    }

    private static void fill(StoreQueues q) {
        for (int i = 0; i < 6; i++) {
            q.store(0, 0, 1);
        }
        due("fill", q.size(), 6);
    }

    private static String answers(StoreQueues q) {
        StringBuilder all = new StringBuilder();
        all.append(q.size()).append(' ').append(q.strictOutcomes()).append(' ').append(q.surprise());
        for (int k = 0; k < q.outcomes(); k++) {
            all.append(' ').append(q.outcome(k)).append(q.strictlyPossible(q.outcome(k)));
        }
        for (int k = 0; k < 6; k++) {
            all.append(' ').append(q.finds(k));
        }
        return all.append(' ').append(q.fencesNeeded()).toString();
    }

    private static void refusedCallsChangeNothing() {
        StoreQueues q = crossingWithFences(true, true);
        String before = answers(q);
        q.store(4, 0, 1);
        q.store(0, 3, 1);
        q.store(0, 0, 4);
        q.load(-1, 0);
        q.load(0, -1);
        q.fence(4);
        q.drop(-1);
        q.drop(3);
        q.store(2, 0, 3);
        q.load(2, 0);
        q.fence(2);
        q.outcome(-1);
        q.finds(9);
        q.ends(9);
        due("refused: the same answers", before.equals(answers(q)), true);
        due("refused: thread 0 as before", q.drop(0), 2);
        due("refused: thread 1 as before", q.drop(1), 2);
        due("refused: thread 2 as before", q.drop(2), -4);
    }

    private static void questionsChangeNothing() {
        StoreQueues q = crossing();
        String first = answers(q);
        due("questions: fencesNeeded first", q.fencesNeeded(), 2);
        due("questions: the same answers again", first.equals(answers(q)), true);
    }

    private static void objectsAreApart() {
        StoreQueues one = crossing();
        StoreQueues other = message();
        due("apart: first", one.outcomes(), 4);
        due("apart: second", other.outcomes(), 3);
        one.clear();
        due("apart: second stays", other.size(), 4);
    }
}
