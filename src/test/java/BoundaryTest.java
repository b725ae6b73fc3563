/**
 * One test for each sentence of the document that names a boundary case. A test quotes its sentence,
 * so that a failure tells which one is broken; the due answers are worked out by hand.
 *
 * <p>Programs are written as text: threads from 0 on, parted by '|'; "s12" stores 2 to variable 1,
 * "l0" loads variable 0, "f" is a fence.
 */
public final class BoundaryTest {
    private static final int BAD_ARG = -1;
    private static final int FULL = -2;
    private static final int NONE = -4;
    private static final int MIN = Integer.MIN_VALUE;
    private static final int MAX = Integer.MAX_VALUE;

    /** Just outside, far outside, the answer codes, and numbers that come back into range if bits are lost. */
    private static final int[] NO_THREADS = {-1, 4, -2, -4, 5, 7, 8, 256, 65536, 1 << 30, MIN, MIN + 3, MAX};
    private static final int[] NO_VARIABLES = {-1, 3, -2, -4, 4, 5, 8, 256, 65536, 1 << 30, MIN, MIN + 2, MAX};
    private static final int[] NO_STORED_VALUES = {0, 4, -1, -2, -3, 5, 8, 257, 65537, (1 << 30) + 1, MIN, MIN + 1, MAX};

    /** Two threads, each storing to its own variable and loading the other's: both loads may find 0. */
    private static final String CROSSING = "s01 l1 | s11 l0";
    private static final String MESSAGE = "s01 s11 | l1 l0";
    /** Four outcomes have both first loads find 0, which no strict run has: the second ones may find 0 or 1. */
    private static final String CROSSING_TWICE = "s01 l1 l1 | s11 l0 l0";
    private static final String FULL_PROGRAM = "s01 l1 | s11 l0 | f | f";

    private static String sentence = "";
    private static int sentences = 0;
    private static int wrong = 0;

    public static void main(String[] args) {
        terms();
        steps();
        runsAndOutcomes();
        refusals();
        newObject();
        store();
        load();
        fence();
        drop();
        clearAndSize();
        counts();
        outcome();
        possible();
        surprise();
        finds();
        ends();
        implies();
        fencesNeeded();
        numberOfCalls();
        System.out.println(wrong == 0
            ? "all " + sentences + " boundary cases hold"
            : wrong + " answers are not as due");
        if (wrong != 0) {
            System.exit(1);
        }
    }

    private static void says(String where, String words) {
        sentence = where + ", \"" + words + "\"";
        sentences++;
    }

    private static void due(String call, long got, long want) {
        if (got != want) {
            wrong++;
            System.out.println(sentence + ": " + call + " answered " + got + ", due is " + want);
        }
    }

    private static void due(String call, boolean got, boolean want) {
        if (got != want) {
            wrong++;
            System.out.println(sentence + ": " + call + " answered " + got + ", due is " + want);
        }
    }

    private static StoreQueues program(String text) {
        StoreQueues q = new StoreQueues();
        append(q, text);
        return q;
    }

    private static void append(StoreQueues q, String text) {
        String[] threads = text.split("\\|");
        for (int t = 0; t < threads.length; t++) {
            for (String word : threads[t].trim().split(" +")) {
                due(text + ": \"" + word + "\" is taken", appendWord(q, t, word) > 0, !word.isEmpty());
            }
        }
    }

    private static int appendWord(StoreQueues q, int t, String word) {
        if (word.isEmpty()) {
            return 0;
        }
        int x = word.length() > 1 ? word.charAt(1) - '0' : 0;
        return switch (word.charAt(0)) {
            case 's' -> q.store(t, x, word.charAt(2) - '0');
            case 'l' -> q.load(t, x);
            default -> q.fence(t);
        };
    }

    /** The outcome with these values in the variables at the end and these values found by the loads. */
    private static int code(int x0, int x1, int x2, int... found) {
        int sum = 4096 * (x0 + 4 * x1 + 16 * x2);
        int weight = 1;
        for (int value : found) {
            sum += weight * value;
            weight *= 4;
        }
        return sum;
    }

    /** These are all outcomes of runs, in rising order, and no other is answered or possible. */
    private static void dueOutcomes(String text, int... all) {
        StoreQueues q = program(text);
        due(text + ": outcomes()", q.outcomes(), all.length);
        for (int k = 0; k < all.length; k++) {
            due(text + ": outcome(" + k + ")", q.outcome(k), all[k]);
            due(text + ": possible(" + all[k] + ")", q.possible(all[k]), true);
        }
        due(text + ": outcome(" + all.length + ")", q.outcome(all.length), NONE);
    }

    /** These are all outcomes of strict runs. */
    private static void dueStrictOutcomes(String text, int... all) {
        StoreQueues q = program(text);
        due(text + ": strictOutcomes()", q.strictOutcomes(), all.length);
        for (int one : all) {
            due(text + ": strictlyPossible(" + one + ")", q.strictlyPossible(one), true);
        }
    }

    private static void terms() {
        says("Terms", "THREADS are 0 to 3");
        for (int t = 0; t < 4; t++) {
            StoreQueues q = new StoreQueues();
            due("store(" + t + ", 0, 1)", q.store(t, 0, 1), 1);
            due("load(" + t + ", 0)", q.load(t, 0), 2);
            due("fence(" + t + ")", q.fence(t), 3);
            due("drop(" + t + ")", q.drop(t), 2);
        }

        says("Terms", "VARIABLES [are] 0 to 2");
        for (int x = 0; x < 3; x++) {
            StoreQueues q = new StoreQueues();
            due("store(0, " + x + ", 1)", q.store(0, x, 1), 1);
            due("load(0, " + x + ")", q.load(0, x), 2);
            for (int other = 0; other < 3; other++) {
                due("ends(" + other + ") after a store to " + x, q.ends(other), other == x ? 2 : 1);
            }
        }

        says("Terms", "VALUES [are] 0 to 3; v from 1 to 3");
        for (int v = 1; v < 4; v++) {
            StoreQueues q = new StoreQueues();
            due("store(0, 0, " + v + ")", q.store(0, 0, v), 1);
            q.load(1, 0);
            due("finds(0)", q.finds(0), 1 | 1 << v);
            due("ends(0)", q.ends(0), 1 << v);
        }

        says("Terms", "All threads together have at most 6 instructions");
        for (String text : new String[] {"f f f f f f", "|||l0 l1 l2 l0 l1 l2", "s01 | l0 f | s12 | l1 f", FULL_PROGRAM}) {
            StoreQueues q = program(text);
            due(text + ": size()", q.size(), 6);
            for (int t = 0; t < 4; t++) {
                due(text + ": a seventh to " + t, q.fence(t), FULL);
            }
        }

        says("Terms", "All variables are 0 at first");
        dueOutcomes("l0 l1 l2", 0);
        due("ends(0)", program("l0").ends(0), 1);

        says("Terms", "LOADS are numbered thread by thread, within a thread in its order, from 0 on");
        StoreQueues q = new StoreQueues();
        appendWord(q, 3, "s23");
        appendWord(q, 3, "l2");
        due("finds(0), load of thread 3 alone", q.finds(0), 8);
        appendWord(q, 1, "l1");
        due("finds(0), load of thread 1", q.finds(0), 1);
        due("finds(1), load of thread 3", q.finds(1), 8);
        appendWord(q, 1, "l2");
        due("finds(1), second load of thread 1", q.finds(1), 1 | 8);
        due("finds(2), load of thread 3", q.finds(2), 8);
        appendWord(q, 0, "l0");
        due("finds(3), load of thread 3", q.finds(3), 8);
        due("drop(1)", q.drop(1), 1);
        due("finds(2), load of thread 3", q.finds(2), 8);
        due("finds(3)", q.finds(3), NONE);
    }

    private static void steps() {
        says("Terms", "Every thread has a QUEUE of stores, empty at first");
        dueOutcomes("f l0", code(0, 0, 0, 0));
        dueOutcomes("f f s03", code(3, 0, 0));

        says("Terms", "store x v is put at the end of its queue; the first store of a queue is taken out");
        dueOutcomes("s01 s02 s03", code(3, 0, 0));
        dueOutcomes("s01 s11 | l1 l0", code(1, 1, 0, 0, 0), code(1, 1, 0, 0, 1), code(1, 1, 0, 1, 1));

        says("Terms", "load x FINDS the value of the last store to x in its own queue");
        dueOutcomes("s01 s03 s02 s13 l0", code(2, 3, 0, 2));
        due("own queue before the memory", program("s01 l0 | s02").finds(0), 2 | 4);
        due("not another's queue", program("s01 | s02 l0 f").possible(code(2, 0, 0, 1)), false);

        says("Terms", "or, if there is none, the value of x in the memory");
        due("a store to another variable", program("s13 l0").finds(0), 1);
        due("nothing in the queue", program("l0 | s02").finds(0), 1 | 4);
        due("taken out, then another's store", program("s01 f l0 | s03").finds(0), 2 | 8);

        says("Terms", "fence can be gone on with only if the thread's queue is empty");
        due("own queue", program("s01 f l1 | s11 f l0").possible(code(1, 1, 0, 0, 0)), false);
        // If the load finds 0, the stores of thread 1 come later, and so does that of 2 to variable 0.
        due("all of the queue, not its first store", program("s21 s01 f l1 | s11 s02").possible(code(1, 1, 1, 0)), false);
        due("no fence", program("s21 s01 l1 | s11 s02").possible(code(1, 1, 1, 0)), true);
        due("the thread's own queue alone", program("s01 l1 | s11 l0 | f").possible(code(1, 1, 0, 0, 0)), true);
        due("stores behind the fence still wait", program("f s01 l1 | f s11 l0").possible(code(1, 1, 0, 0, 0)), true);
        due("a fence behind the load is late", program("s01 l1 f | s11 l0 f").possible(code(1, 1, 0, 0, 0)), true);
    }

    private static void runsAndOutcomes() {
        says("Terms", "A RUN is made of STEPS until none is possible");
        due("every store is taken out", program("s01 s12 | s23 | l0").ends(0), 2);
        due("every store is taken out", program("s01 s12 | s23 | l0").ends(1), 4);
        due("every store is taken out", program("s01 s12 | s23 | l0").ends(2), 8);
        dueOutcomes("", 0);

        says("Terms", "A STRICT run is one in which every store is taken out right after it was put in");
        dueStrictOutcomes(CROSSING, code(1, 1, 0, 1, 0), code(1, 1, 0, 0, 1), code(1, 1, 0, 1, 1));
        dueStrictOutcomes("s01 s02", code(2, 0, 0));
        dueStrictOutcomes("s01 | s02", code(1, 0, 0), code(2, 0, 0));
        dueStrictOutcomes("", 0);

        says("Terms", "the sum over its loads k of 4 to the power k times the value found");
        dueOutcomes("s23 l2 l2 l2 l2 l2", code(0, 0, 3, 3, 3, 3, 3, 3));
        dueOutcomes("s23 l2 l2 l2 l2 l2", 197631);
        dueOutcomes("l0 l1 l2 l0 l1 l2", 0);
        dueOutcomes("s01 l1 l1 l1 l1 l0", 4096 + 256);

        says("Terms", "plus 4096 times the sum over the variables x of 4 to the power x times the value of x");
        dueOutcomes("s03", 12288);
        dueOutcomes("s13", 49152);
        dueOutcomes("s23", 196608);
        dueOutcomes("s03 s13 s23 l0 l1 l2", 258111);
    }

    private static void refusals() {
        says("Terms", "A refused call answers the code named and changes nothing");
        String[] texts = {"", "s01", "l0 | s03", CROSSING, "s01 f l1 || s11 l0", "s02 l0 | s01", "|||l2 s21", FULL_PROGRAM};
        for (String text : texts) {
            for (int call = 0; call < 9; call++) {
                refusedIsForgotten(text, call, false);
                refusedIsForgotten(text, call, true);
            }
        }
        for (String text : new String[] {FULL_PROGRAM, "s01 s02 s03 l0 l0 l0", "s01 | s02 | s03 l0 | l0 l0"}) {
            for (int call = 9; call < 12; call++) {
                refusedIsForgotten(text, call, false);
                refusedIsForgotten(text, call, true);
            }
        }

        says("Terms", "No call ever throws");
        for (String text : new String[] {"", CROSSING, "l0 l0 l0 l0 l0 l0", "s01 s02 s03 s11 s12 s13", FULL_PROGRAM}) {
            throwsNothing(text);
        }
    }

    private static int refused(StoreQueues q, int call) {
        return switch (call) {
            case 0 -> q.store(4, 0, 1);
            case 1 -> q.store(0, 3, 1);
            case 2 -> q.store(1, 0, 0);
            case 3 -> q.load(-1, 0);
            case 4 -> q.load(0, -1);
            case 5 -> q.fence(4);
            case 6 -> q.drop(-1);
            case 7 -> q.drop(4);
            case 8 -> q.ends(3);
            case 9 -> q.store(0, 2, 3);
            case 10 -> q.load(1, 2);
            default -> q.fence(2);
        };
    }

    /** Goes on with both objects after the refused call, down to the empty program and up again. */
    private static void refusedIsForgotten(String text, int call, boolean askedBefore) {
        StoreQueues untouched = program(text);
        StoreQueues q = program(text);
        if (askedBefore) {
            q.outcomes();
        }
        due(text + ": refused call " + call, refused(q, call), call < 9 ? BAD_ARG : FULL);
        dueSame(text, q, untouched);
        for (int t = 3; t >= 0; t--) {
            int left = 1;
            for (int i = 0; i < 6 && left > 0; i++) {
                left = q.drop(t);
                due(text + ": drop(" + t + ")", left, untouched.drop(t));
                due(text + ": refused call " + call, call < 9 ? refused(q, call) : BAD_ARG, BAD_ARG);
                dueSame(text, q, untouched);
            }
            due(text + ": drop(" + t + ") of none", q.drop(t), NONE);
        }
        due(text + ": size()", q.size(), 0);
        append(q, CROSSING);
        dueSame(text, q, program(CROSSING));
    }

    private static void dueSame(String text, StoreQueues q, StoreQueues other) {
        due(text + ": size()", q.size(), other.size());
        due(text + ": outcomes()", q.outcomes(), other.outcomes());
        due(text + ": strictOutcomes()", q.strictOutcomes(), other.strictOutcomes());
        due(text + ": surprise()", q.surprise(), other.surprise());
        due(text + ": fencesNeeded()", q.fencesNeeded(), other.fencesNeeded());
        for (int k = 0; k < 5; k++) {
            due(text + ": outcome(" + k + ")", q.outcome(k), other.outcome(k));
            due(text + ": finds(" + k + ")", q.finds(k), other.finds(k));
        }
        for (int x = 0; x < 3; x++) {
            due(text + ": ends(" + x + ")", q.ends(x), other.ends(x));
        }
    }

    private static void throwsNothing(String text) {
        int[] numbers = {0, 1, 2, 3, 4, 5, 6, 7, -1, -2, -4, 31, 32, 33, 719, 720, 721, 4096, 262144, MIN, MIN + 1, MAX - 1, MAX};
        for (int a : numbers) {
            StoreQueues q = program(text);
            for (int b : numbers) {
                try {
                    callAll(q, a, b);
                } catch (Throwable thrown) {
                    due(text + ": with " + a + " and " + b + " " + thrown, 1, 0);
                }
            }
        }
    }

    private static void callAll(StoreQueues q, int a, int b) {
        q.outcome(a);
        q.possible(a);
        q.strictlyPossible(b);
        q.finds(b);
        q.ends(a);
        q.implies(a, b, b, a);
        q.implies(0, a, 0, b);
        q.surprise();
        q.fencesNeeded();
        q.outcomes();
        q.strictOutcomes();
        q.size();
        q.store(a, b, 1);
        q.store(0, a, b);
        q.load(a, b);
        q.load(b, a);
        q.fence(a);
        q.drop(b);
        q.drop(a);
    }

    private static void newObject() {
        says("Promise 1", "No instruction");
        StoreQueues q = new StoreQueues();
        due("size()", q.size(), 0);
        for (int t = 0; t < 4; t++) {
            due("drop(" + t + ")", q.drop(t), NONE);
        }
        due("outcomes()", q.outcomes(), 1);
        due("finds(0)", q.finds(0), NONE);
    }

    /** Six instructions in one thread, so that only the order of the tests decides between the codes. */
    private static StoreQueues full() {
        return program("f f f f f f");
    }

    private static void store() {
        says("Promise 2", "t not 0 to 3 answers BAD_ARG");
        for (int t : NO_THREADS) {
            due("store(" + t + ", 0, 1)", new StoreQueues().store(t, 0, 1), BAD_ARG);
        }

        says("Promise 2", "x not 0 to 2 answers BAD_ARG");
        for (int x : NO_VARIABLES) {
            due("store(0, " + x + ", 1)", new StoreQueues().store(0, x, 1), BAD_ARG);
        }

        says("Promise 2", "v not 1 to 3 answers BAD_ARG");
        for (int v : NO_STORED_VALUES) {
            due("store(0, 0, " + v + ")", new StoreQueues().store(0, 0, v), BAD_ARG);
        }

        says("Promise 2", "FULL");
        StoreQueues q = program("s01 | s01 | s01 | s01 s01");
        due("the sixth", q.store(1, 2, 3), 2);
        for (int t = 0; t < 4; t++) {
            due("store(" + t + ", 2, 3) of a seventh", q.store(t, 2, 3), FULL);
        }

        says("Promise 2", "Tested in this order");
        due("bad t, full", full().store(4, 0, 1), BAD_ARG);
        due("bad x, full", full().store(0, 3, 1), BAD_ARG);
        due("bad v, full", full().store(0, 0, 0), BAD_ARG);
        due("bad v, full", full().store(0, 0, 4), BAD_ARG);
        due("all bad, full", full().store(-1, -1, -1), BAD_ARG);
        due("all good, full", full().store(3, 2, 3), FULL);

        says("Promise 2", "Otherwise the number of instructions of the thread");
        StoreQueues one = program("| f l0");
        for (int count = 3; count <= 6; count++) {
            due("store(1, 0, 1)", one.store(1, 0, 1), count);
        }
        StoreQueues two = program("f | f f | | f f");
        due("store(2, 0, 1), first of its thread", two.store(2, 0, 1), 1);
    }

    private static void load() {
        says("Promise 3", "t not 0 to 3 answers BAD_ARG");
        for (int t : NO_THREADS) {
            due("load(" + t + ", 0)", new StoreQueues().load(t, 0), BAD_ARG);
        }

        says("Promise 3", "x not 0 to 2 answers BAD_ARG");
        for (int x : NO_VARIABLES) {
            due("load(0, " + x + ")", new StoreQueues().load(0, x), BAD_ARG);
        }

        says("Promise 3", "FULL");
        StoreQueues q = program("l0 | l0 | l0 | l0 l0");
        due("the sixth", q.load(2, 2), 2);
        for (int t = 0; t < 4; t++) {
            due("load(" + t + ", 2) of a seventh", q.load(t, 2), FULL);
        }

        says("Promise 3", "Tested in this order");
        due("bad t, full", full().load(4, 0), BAD_ARG);
        due("bad t, full", full().load(-1, 0), BAD_ARG);
        due("bad x, full", full().load(0, 3), BAD_ARG);
        due("bad x, full", full().load(0, -1), BAD_ARG);
        due("all good, full", full().load(3, 2), FULL);

        says("Promise 3", "Otherwise the number of instructions of the thread");
        StoreQueues one = program("|| f s01");
        for (int count = 3; count <= 6; count++) {
            due("load(2, 0)", one.load(2, 0), count);
        }
        StoreQueues two = program("f | | f f | f f");
        due("load(1, 0), first of its thread", two.load(1, 0), 1);
    }

    private static void fence() {
        says("Promise 4", "t not 0 to 3 answers BAD_ARG");
        for (int t : NO_THREADS) {
            due("fence(" + t + ")", new StoreQueues().fence(t), BAD_ARG);
        }

        says("Promise 4", "FULL");
        StoreQueues q = program("f | f | f | f f");
        due("the sixth", q.fence(3), 3);
        for (int t = 0; t < 4; t++) {
            due("fence(" + t + ") of a seventh", q.fence(t), FULL);
        }

        says("Promise 4", "Tested in this order");
        for (int t : NO_THREADS) {
            due("fence(" + t + "), full", full().fence(t), BAD_ARG);
        }
        due("fence(3), full", full().fence(3), FULL);

        says("Promise 4", "Otherwise the number of instructions of the thread");
        StoreQueues one = program("||| l0 s01");
        for (int count = 3; count <= 6; count++) {
            due("fence(3)", one.fence(3), count);
        }
        StoreQueues two = program("| f | f f | f f");
        due("fence(0), first of its thread", two.fence(0), 1);
    }

    private static void drop() {
        says("Promise 5", "Takes the last instruction of thread t away");
        StoreQueues q = program("s01 s02 | s11 s12 | s21 s22");
        due("drop(1)", q.drop(1), 1);
        due("outcome(0)", q.outcome(0), code(2, 1, 2));
        due("drop(0)", q.drop(0), 1);
        due("outcome(0)", q.outcome(0), code(1, 1, 2));
        due("drop(2)", q.drop(2), 1);
        due("outcome(0)", q.outcome(0), code(1, 1, 1));

        says("Promise 5", "BAD_ARG if t is not 0 to 3");
        for (int t : NO_THREADS) {
            due("drop(" + t + ") of an empty program", new StoreQueues().drop(t), BAD_ARG);
            due("drop(" + t + ") of a full one", program(FULL_PROGRAM).drop(t), BAD_ARG);
        }

        says("Promise 5", "NONE if it has none");
        for (int t = 0; t < 4; t++) {
            due("drop(" + t + ") of an empty program", new StoreQueues().drop(t), NONE);
        }
        due("drop(0), others have some", program("| f | f | f").drop(0), NONE);
        due("drop(2), others have some", program("f | f || f").drop(2), NONE);
        due("drop(3), others have all", full().drop(3), NONE);

        says("Promise 5", "Otherwise the number of instructions left to it");
        StoreQueues six = program("| s01 l0 f s02 l1 f");
        for (int left = 5; left >= 0; left--) {
            due("drop(1)", six.drop(1), left);
        }
        due("drop(1) of none", six.drop(1), NONE);
        StoreQueues among = program("f f | f | f f | f");
        due("drop(1), others have more", among.drop(1), 0);
        due("a place is free again", among.fence(1), 1);
        due("and full again", among.fence(1), FULL);
    }

    private static void clearAndSize() {
        says("Promise 6", "Takes all instructions away");
        for (String text : new String[] {"", "s03", "||| l0", FULL_PROGRAM}) {
            StoreQueues q = program(text);
            q.outcomes();
            q.clear();
            dueSame(text, q, new StoreQueues());
            q.clear();
            due("size() after clear twice", q.size(), 0);
            for (int t = 0; t < 4; t++) {
                due("drop(" + t + ") after clear", q.drop(t), NONE);
            }
            for (int count = 1; count <= 6; count++) {
                due("fence(2) after clear", q.fence(2), count);
            }
            due("fence(2), full after clear", q.fence(2), FULL);
        }

        says("Promise 7", "The number of instructions of all threads");
        StoreQueues q = new StoreQueues();
        for (int count = 0; count < 6; count++) {
            due("size()", q.size(), count);
            q.load(3 - count % 4, 0);
        }
        due("size(), full", q.size(), 6);
        q.load(0, 0);
        due("size(), after a refused call", q.size(), 6);
    }

    /**
     * Three loads of one thread find values at rising places of 0, a, b, c if the stores come in the
     * order a, b, c: 20 ways. The order b, a, c has 20, too; the 16 without both a and b are the
     * same. So each of three values at the end has 24 outcomes.
     */
    private static final String MANY = "s01 | s02 | s03 | l0 l0 l0";

    private static void counts() {
        says("Promise 8", "The number of different outcomes of runs");
        due("no instruction", new StoreQueues().outcomes(), 1);
        due("fences alone", full().outcomes(), 1);
        due("loads alone", program("l0 l1 | l2 l0 | l1 | l2").outcomes(), 1);
        due("stores alone", program("s01 | s03 s02 | s01 s02 s01").outcomes(), 2);
        due("the same outcome of many runs", program("s01 s01 | s01 s01 | s01 | s01").outcomes(), 1);
        due("many outcomes", program(MANY).outcomes(), 72);

        says("Promise 9", "The number of different outcomes of strict runs");
        due("no instruction", new StoreQueues().strictOutcomes(), 1);
        due("fences alone", full().strictOutcomes(), 1);
        due("loads alone", program("l0 l1 | l2 l0 | l1 | l2").strictOutcomes(), 1);
        due("many outcomes", program(MANY).strictOutcomes(), 72);
        due("fewer than of all runs", program(CROSSING).strictOutcomes(), 3);
    }

    private static void outcome() {
        says("Promise 10", "The k-th least (0 is the least) outcome of runs");
        dueOutcomes(CROSSING, 20480, 20481, 20484, 20485);
        dueOutcomes("s23 | s21", code(0, 0, 1), code(0, 0, 3));
        StoreQueues many = program(MANY);
        due("outcome(0): the last store is that of 1", many.outcome(0), code(1, 0, 0, 0, 0, 0));
        due("outcome(71): the last store is that of 3, and all loads find it", many.outcome(71), code(3, 0, 0, 3, 3, 3));
        for (int k = 1; k < 72; k++) {
            due("outcome(" + k + ") is greater than the one before", many.outcome(k) > many.outcome(k - 1), true);
        }

        says("Promise 10", "NONE if there is none");
        due("outcome(72) of 72", many.outcome(72), NONE);
        for (int k : new int[] {-1, 4, -4, 5, 719, 720, 721, 256, 65536, MIN, MIN + 1, MAX}) {
            due("outcome(" + k + ") of four", program(CROSSING).outcome(k), NONE);
        }
        for (int k : new int[] {-1, 1, MIN, MAX}) {
            due("outcome(" + k + ") of one", new StoreQueues().outcome(k), NONE);
        }
        StoreQueues fewer = program(MANY);
        fewer.outcomes();
        fewer.clear();
        due("outcome(1) after 72 were there", fewer.outcome(1), NONE);
        due("outcome(71) after 72 were there", fewer.outcome(71), NONE);
    }

    private static void possible() {
        int[] never = {-1, -2, -4, 0, 20479, 20486, 20480 + 16, 20480 + 1024, 20480 - 4096, 20480 + 4096,
            20480 + 65536, 20480 + 262144, 20480 - 262144, 20480 + (1 << 30), MIN, MIN + 20481, MAX};

        says("Promise 11", "Whether some run has this outcome");
        for (int outcome : never) {
            due("possible(" + outcome + ")", program(CROSSING).possible(outcome), false);
        }
        due("possible(0) of an empty program", new StoreQueues().possible(0), true);
        due("possible(1) of an empty program", new StoreQueues().possible(1), false);
        due("possible(NONE) of an empty program", new StoreQueues().possible(NONE), false);
        due("the greatest there is", program("s03 s13 s23 l0 l1 l2").possible(258111), true);
        due("an outcome of the program before", afterOneWithMany().possible(code(3, 0, 0, 3, 3, 3)), false);

        says("Promise 12", "Whether some strict run has this outcome");
        for (int outcome : never) {
            due("strictlyPossible(" + outcome + ")", program(CROSSING).strictlyPossible(outcome), false);
        }
        due("strictlyPossible(20480)", program(CROSSING).strictlyPossible(20480), false);
        due("strictlyPossible(0) of an empty program", new StoreQueues().strictlyPossible(0), true);
        due("strictlyPossible(1) of an empty program", new StoreQueues().strictlyPossible(1), false);
        due("the greatest there is", program("s03 s13 s23 l0 l1 l2").strictlyPossible(258111), true);
        due("an outcome of the program before", afterOneWithMany().strictlyPossible(code(3, 0, 0, 3, 3, 3)), false);
    }

    private static StoreQueues afterOneWithMany() {
        StoreQueues q = program(MANY);
        q.outcomes();
        q.clear();
        append(q, CROSSING);
        return q;
    }

    private static void surprise() {
        says("Promise 13", "The least outcome of runs that no strict run has");
        due("the least outcome", program(CROSSING).surprise(), 20480);
        // If thread 1 is the last to store to variable 1, a strict run has its load find 1.
        String late = "s02 s01 s11 | s01 s13 l0";
        due("the greatest outcome", program(late).surprise(), code(1, 3, 0, 2));
        due("the greatest outcome", program(late).outcome(3), code(1, 3, 0, 2));
        due("nine outcomes", program(CROSSING_TWICE).outcomes(), 9);
        due("five of strict runs", program(CROSSING_TWICE).strictOutcomes(), 5);
        due("the least of four", program(CROSSING_TWICE).surprise(), code(1, 1, 0, 0, 0, 0, 0));
        due("one of the four", program(CROSSING_TWICE).strictlyPossible(code(1, 1, 0, 0, 1, 0, 1)), false);
        // The fourth strict outcome of the first program is the surprise of the second, which has only three.
        StoreQueues second = program("l1 s13 s02 | s12 s01");
        due("in the program before", second.strictlyPossible(code(1, 3, 0, 2)), true);
        second.clear();
        append(second, late);
        due("strict in the program before", second.surprise(), code(1, 3, 0, 2));
        due("strict in the program before", second.fencesNeeded(), 1);
        due("strict in the program before", second.strictlyPossible(code(1, 3, 0, 2)), false);

        says("Promise 13", "NONE if there is none");
        for (String text : new String[] {"", "s01 l1 s11 l0", MESSAGE, "l1 s01 | l0 s11", "s01 f l1 | s11 f l0", MANY}) {
            due(text + ": surprise()", program(text).surprise(), NONE);
        }
    }

    private static void finds() {
        says("Promise 14", "The set of the values, as the sum of 2 to the power v");
        due("only 0", program("l0").finds(0), 1);
        due("only 3", program("s03 l0").finds(0), 8);
        due("all four", program("s01 s02 s03 | l0").finds(0), 15);
        due("a value of the greatest outcomes alone", program(CROSSING_TWICE).finds(2), 1 | 2);

        says("Promise 14", "NONE if there is no load k");
        for (int k : new int[] {-1, 2, 3, 5, 6, 7, -2, 16, 256, 65536, MIN, MIN + 1, MAX}) {
            due("finds(" + k + ") of two loads", program(CROSSING).finds(k), NONE);
        }
        due("finds(0) of no instruction", new StoreQueues().finds(0), NONE);
        due("finds(0) of stores and fences", program("s01 f | s02 f").finds(0), NONE);
        due("finds(5) of six loads", program("l0 l1 | l2 | l0 | l1 l2").finds(5), 1);
        due("finds(6) of six loads", program("l0 l1 | l2 | l0 | l1 l2").finds(6), NONE);
        due("finds(4) of five loads", program("s02 | l0 l0 | l0 | l0 l0").finds(4), 1 | 4);
        due("finds(5) of five loads", program("s02 | l0 l0 | l0 | l0 l0").finds(5), NONE);
        StoreQueues dropped = program("l0 l0");
        due("finds(1) before drop", dropped.finds(1), 1);
        dropped.drop(0);
        due("finds(1) after drop", dropped.finds(1), NONE);
        dropped.clear();
        due("finds(0) after clear", dropped.finds(0), NONE);
    }

    private static void ends() {
        says("Promise 15", "The set of the values, as the sum of 2 to the power v");
        for (int x = 0; x < 3; x++) {
            due("ends(" + x + ") of no instruction", new StoreQueues().ends(x), 1);
            due("ends(" + x + ") never stored to", program("l0 l1 l2").ends(x), 1);
        }
        due("all three, and not 0", program("s01 | s12 s02 | s03 s21").ends(0), 14);
        due("variable 1", program("s01 | s12 s02 | s03 s21").ends(1), 4);
        due("variable 2", program("s01 | s12 s02 | s03 s21").ends(2), 2);
        due("not one stored over by its own thread", program("s03 s01 | s02").ends(0), 2 | 4);

        says("Promise 15", "BAD_ARG if x is not 0 to 2");
        for (int x : NO_VARIABLES) {
            due("ends(" + x + ")", program(FULL_PROGRAM).ends(x), BAD_ARG);
            due("ends(" + x + ") of no instruction", new StoreQueues().ends(x), BAD_ARG);
        }
    }

    private static void implies() {
        says("Promise 16", "Whether in every run in which load k finds v, load j finds w");
        due("flag, so message", program(MESSAGE).implies(0, 1, 1, 1), true);
        due("one run has it otherwise", program(MESSAGE).implies(0, 0, 1, 0), false);
        due("runs that are not strict count", program(CROSSING).implies(0, 0, 1, 1), false);
        due("the greatest outcome counts", program(CROSSING).implies(0, 1, 1, 0), false);
        due("outcomes of the program before do not", afterOneWithMany().implies(0, 2, 1, 0), true);
        due("a load and itself", program(CROSSING).implies(1, 1, 1, 1), true);
        due("a load and itself with another value", program(CROSSING).implies(1, 1, 1, 0), false);
        due("no run in which load k finds v", program(MESSAGE).implies(0, 2, 1, 3), true);
        StoreQueues six = program("l0 l1 | l2 | l0 | l1 l2");
        due("the first and the last of six", six.implies(0, 0, 5, 0), true);
        due("the last and the first of six", six.implies(5, 0, 0, 1), false);

        says("Promise 16", "false if there are no such loads");
        for (int k : new int[] {-1, 2, 5, 6, -2, 16, 256, MIN, MIN + 1, MAX}) {
            due("implies(" + k + ", 1, 1, 1)", program(MESSAGE).implies(k, 1, 1, 1), false);
            due("implies(0, 1, " + k + ", 1)", program(MESSAGE).implies(0, 1, k, 1), false);
            due("implies(" + k + ", 0, " + k + ", 0)", program(MESSAGE).implies(k, 0, k, 0), false);
            due("implies(" + k + ", 9, 1, 1), never found", program(MESSAGE).implies(k, 9, 1, 1), false);
            due("implies(0, 9, " + k + ", 1), never found", program(MESSAGE).implies(0, 9, k, 1), false);
        }
        due("no instruction", new StoreQueues().implies(0, 0, 0, 0), false);
        due("no loads", program("s01 f | s02 f").implies(0, 0, 0, 0), false);
        due("a sixth load of five", program("s02 | l0 l0 | l0 | l0 l0").implies(5, 0, 0, 0), false);
        due("a seventh load of six", six.implies(0, 0, 6, 0), false);
        StoreQueues dropped = program("| l0 l0");
        due("before drop", dropped.implies(0, 0, 1, 0), true);
        dropped.drop(1);
        due("after drop", dropped.implies(0, 0, 1, 0), false);

        says("Promise 16", "v and w may be any numbers");
        for (int any : new int[] {-1, 4, 5, -2, -3, -4, 8, 9, 257, 65537, (1 << 30) + 1, MIN, MIN + 1, MAX}) {
            due("implies(0, " + any + ", 1, 0)", program(MESSAGE).implies(0, any, 1, 0), true);
            due("implies(0, " + any + ", 1, " + any + ")", program(MESSAGE).implies(0, any, 1, any), true);
            due("implies(0, 1, 1, " + any + ")", program(MESSAGE).implies(0, 1, 1, any), false);
            due("implies(0, 2, 1, " + any + ")", program(MESSAGE).implies(0, 2, 1, any), true);
        }
    }

    private static void fencesNeeded() {
        says("Promise 17", "The least number of fences");
        for (String text : new String[] {"", "s01", "f f f f f f", MESSAGE, MANY, "s01 l1 s11 l0 s02 l1"}) {
            due(text + ": none needed", program(text).fencesNeeded(), 0);
        }
        due("one in each thread", program(CROSSING).fencesNeeded(), 2);
        due("one is enough", program("s02 s01 s11 | s01 s13 l0").fencesNeeded(), 1);
        due("those there need not be put in", program("s01 f l1 | s11 l0").fencesNeeded(), 1);
        due("those there need not be put in", program("s01 f l1 | s11 f l0").fencesNeeded(), 0);
        due("those there in a place of no use", program("s01 l1 f | s11 l0 f").fencesNeeded(), 2);
        due("those there in a place of no use", program("f s01 l1 | f s11 l0").fencesNeeded(), 2);

        says("Promise 17", "put in between instructions of threads (any places)");
        due("before several loads", program(CROSSING_TWICE).fencesNeeded(), 2);
        due("behind several stores", program("s01 s02 l1 | s11 s12 l0").fencesNeeded(), 2);
        due("in threads 0 and 3", program("s01 l1 | | | s11 l0").fencesNeeded(), 2);
        due("in threads 2 and 3", program("| | s23 l1 | s13 l2").fencesNeeded(), 2);
        due("at the end of a full list", program("l2 | s01 l1 f | s11 l0").fencesNeeded(), 2);

        says("Promise 17", "the limit of 6 does not count");
        StoreQueues ring = program("s01 l1 | s11 l2 | s21 l0");
        due("three into a full program", ring.fencesNeeded(), 3);
        due("they are not kept", ring.size(), 6);
        due("they are not kept", ring.possible(code(1, 1, 1, 0, 0, 0)), true);
        due("drop(2)", ring.drop(2), 1);
        due("a ring that is open needs none", ring.fencesNeeded(), 0);

        says("Promise 17", "leave only outcomes that strict runs of the program have");
        // The load of thread 0 may overtake its store: both of what it then finds, strict runs have too.
        due("a late store that nobody notices", program("s01 l1 | s11").fencesNeeded(), 0);
        due("a load of one's own store", program("s01 l0 | s02 l0").fencesNeeded(), 0);
    }

    private static void numberOfCalls() {
        says("What it is", "An object is used for at most 512 calls");
        StoreQueues q = new StoreQueues();
        append(q, CROSSING);
        for (int call = 5; call <= 510; call += 2) {
            due("fence(3), call " + call, q.fence(3), 1);
            due("drop(3), call " + (call + 1), q.drop(3), 0);
        }
        due("fencesNeeded(), call 511", q.fencesNeeded(), 2);
        due("surprise(), call 512", q.surprise(), 20480);
    }
}
