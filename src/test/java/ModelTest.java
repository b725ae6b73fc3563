import java.util.ArrayList;
import java.util.Arrays;
import java.util.HashSet;
import java.util.List;
import java.util.Set;
import java.util.TreeSet;

/**
 * Compares the class with a model that walks the runs step by step, with queues, in the words of the
 * document. The programs are all small ones and a fixed sequence of larger ones.
 */
public final class ModelTest {
    private static final int STORE = 0;
    private static final int LOAD = 1;
    private static final int FENCE = 2;

    private static int wrong = 0;
    private static long seed = 20261115L;

    /** An instruction: what, variable, value. */
    private static final class Model {
        final List<List<int[]>> threads = new ArrayList<>();

        Model() {
            for (int t = 0; t < 4; t++) {
                threads.add(new ArrayList<>());
            }
        }

        Model copy() {
            Model other = new Model();
            for (int t = 0; t < 4; t++) {
                other.threads.get(t).addAll(threads.get(t));
            }
            return other;
        }

        int size() {
            int sum = 0;
            for (List<int[]> thread : threads) {
                sum += thread.size();
            }
            return sum;
        }

        int loads() {
            int sum = 0;
            for (List<int[]> thread : threads) {
                for (int[] instruction : thread) {
                    sum += instruction[0] == LOAD ? 1 : 0;
                }
            }
            return sum;
        }

        int numberOfLoad(int thread, int index) {
            int number = 0;
            for (int t = 0; t <= thread; t++) {
                int end = t == thread ? index : threads.get(t).size();
                for (int i = 0; i < end; i++) {
                    number += threads.get(t).get(i)[0] == LOAD ? 1 : 0;
                }
            }
            return number;
        }

        TreeSet<Integer> outcomes(boolean strict) {
            TreeSet<Integer> all = new TreeSet<>();
            Walk start = new Walk(this);
            walk(start, strict, new HashSet<>(), all);
            return all;
        }

        private void walk(Walk at, boolean strict, Set<String> seen, Set<Integer> all) {
            if (!seen.add(at.key())) {
                return;
            }
            boolean stepped = false;
            for (int t = 0; t < 4; t++) {
                if (at.canGoOn(t)) {
                    stepped = true;
                    Walk next = new Walk(at);
                    next.goOn(t);
                    if (strict && !next.queues.get(t).isEmpty()) {
                        next.takeOut(t);
                    }
                    walk(next, strict, seen, all);
                }
                if (!at.queues.get(t).isEmpty()) {
                    stepped = true;
                    Walk next = new Walk(at);
                    next.takeOut(t);
                    walk(next, strict, seen, all);
                }
            }
            if (!stepped) {
                all.add(at.outcome());
            }
        }

        /** Tries every set of places, also before and behind all instructions of a thread: "any places". */
        int fencesNeeded() {
            Set<Integer> allowed = outcomes(true);
            List<int[]> places = new ArrayList<>();
            for (int t = 0; t < 4; t++) {
                for (int i = 0; i <= threads.get(t).size(); i++) {
                    places.add(new int[] {t, i});
                }
            }
            int least = Integer.MAX_VALUE;
            for (int chosen = 0; chosen < 1 << places.size(); chosen++) {
                int number = Integer.bitCount(chosen);
                if (number < least && allowed.containsAll(withFences(places, chosen).outcomes(false))) {
                    least = number;
                }
            }
            return least;
        }

        private Model withFences(List<int[]> places, int chosen) {
            Model fenced = copy();
            for (int p = places.size() - 1; p >= 0; p--) {
                if ((chosen >> p & 1) != 0) {
                    fenced.threads.get(places.get(p)[0]).add(places.get(p)[1], new int[] {FENCE, 0, 0});
                }
            }
            return fenced;
        }
    }

    private static final class Walk {
        final Model program;
        final int[] next = new int[4];
        final List<List<int[]>> queues = new ArrayList<>();
        final int[] memory = new int[3];
        final int[] found = new int[6];

        Walk(Model program) {
            this.program = program;
            for (int t = 0; t < 4; t++) {
                queues.add(new ArrayList<>());
            }
        }

        Walk(Walk other) {
            program = other.program;
            System.arraycopy(other.next, 0, next, 0, 4);
            System.arraycopy(other.memory, 0, memory, 0, 3);
            System.arraycopy(other.found, 0, found, 0, 6);
            for (int t = 0; t < 4; t++) {
                queues.add(new ArrayList<>(other.queues.get(t)));
            }
        }

        String key() {
            StringBuilder key = new StringBuilder();
            key.append(Arrays.toString(next)).append(Arrays.toString(memory)).append(Arrays.toString(found));
            for (List<int[]> queue : queues) {
                key.append(queue.size());
            }
            return key.toString();
        }

        boolean canGoOn(int t) {
            if (next[t] == program.threads.get(t).size()) {
                return false;
            }
            return program.threads.get(t).get(next[t])[0] != FENCE || queues.get(t).isEmpty();
        }

        void goOn(int t) {
            int[] instruction = program.threads.get(t).get(next[t]);
            if (instruction[0] == STORE) {
                queues.get(t).add(instruction);
            } else if (instruction[0] == LOAD) {
                int value = memory[instruction[1]];
                for (int[] store : queues.get(t)) {
                    if (store[1] == instruction[1]) {
                        value = store[2];
                    }
                }
                found[program.numberOfLoad(t, next[t])] = value;
            }
            next[t]++;
        }

        void takeOut(int t) {
            int[] store = queues.get(t).remove(0);
            memory[store[1]] = store[2];
        }

        int outcome() {
            int sum = 0;
            for (int k = 5; k >= 0; k--) {
                sum = 4 * sum + found[k];
            }
            return sum + 4096 * (memory[0] + 4 * memory[1] + 16 * memory[2]);
        }
    }

    /** An object that holds the model's program; it is made anew before it has had 512 calls. */
    private static final class Subject {
        final Model model;
        private StoreQueues object;
        private int calls;

        Subject(Model model) {
            this.model = model;
            build();
        }

        private void build() {
            object = new StoreQueues();
            for (int t = 3; t >= 0; t--) {
                appendThread(t);
            }
            calls = model.size();
        }

        private void appendThread(int t) {
            int count = 0;
            for (int[] instruction : model.threads.get(t)) {
                count++;
                due("appended", give(object, t, instruction), count);
            }
        }

        StoreQueues ask() {
            if (calls == 512) {
                build();
            }
            calls++;
            return object;
        }
    }

    public static void main(String[] args) {
        checkAllOfUpToTwo();
        checkSequence();
        checkSecondProgram();
        checkLongUse();
        System.out.println(wrong == 0 ? "the class agrees with the model" : wrong + " answers differ from the model");
        if (wrong != 0) {
            System.exit(1);
        }
    }

    private static void due(String what, long got, long want) {
        if (got != want) {
            wrong++;
            if (wrong <= 50) {
                System.out.println(what + " answered " + got + ", the model says " + want);
            }
        }
    }

    private static int random(int bound) {
        seed = seed * 6364136223846793005L + 1442695040888963407L;
        return (int) ((seed >>> 33) % bound);
    }

    private static int[] instruction(int number) {
        if (number < 9) {
            return new int[] {STORE, number / 3, number % 3 + 1};
        }
        return number < 12 ? new int[] {LOAD, number - 9, 0} : new int[] {FENCE, 0, 0};
    }

    private static void append(StoreQueues q, Model model, int t, int[] what) {
        boolean full = model.size() == 6;
        if (!full) {
            model.threads.get(t).add(what);
        }
        due("append", give(q, t, what), full ? -2 : model.threads.get(t).size());
    }

    private static int give(StoreQueues q, int t, int[] what) {
        if (what[0] == STORE) {
            return q.store(t, what[1], what[2]);
        }
        return what[0] == LOAD ? q.load(t, what[1]) : q.fence(t);
    }

    private static void checkAllOfUpToTwo() {
        for (int first = 0; first < 52; first++) {
            for (int second = 0; second < 52; second++) {
                Model model = new Model();
                model.threads.get(first / 13).add(instruction(first % 13));
                model.threads.get(second / 13).add(instruction(second % 13));
                checkAll(new Subject(model));
            }
        }
    }

    private static void checkSequence() {
        for (int program = 0; program < 3000; program++) {
            checkAll(new Subject(someProgram()));
        }
    }

    private static Model someProgram() {
        Model model = new Model();
        int threads = 1 + random(4);
        int variables = 1 + random(3);
        int size = 3 + random(4);
        for (int i = 0; i < size; i++) {
            model.threads.get(random(threads)).add(someInstruction(variables));
        }
        return model;
    }

    /** Nothing of an earlier program may be left in the answers about a later one. */
    private static void checkSecondProgram() {
        for (int round = 0; round < 1000; round++) {
            Subject subject = new Subject(someProgram());
            TreeSet<Integer> before = subject.model.outcomes(false);
            due("outcomes before", subject.ask().outcomes(), before.size());
            subject.ask().clear();
            Model next = someProgram();
            subject.model.threads.clear();
            subject.model.threads.addAll(next.threads);
            for (int t = 0; t < 4; t++) {
                for (int[] instruction : next.threads.get(t)) {
                    give(subject.ask(), t, instruction);
                }
            }
            TreeSet<Integer> late = next.outcomes(false);
            TreeSet<Integer> strict = next.outcomes(true);
            due("outcome behind the last", subject.ask().outcome(late.size()), -4);
            due("fencesNeeded", subject.ask().fencesNeeded(), next.fencesNeeded());
            due("surprise", subject.ask().surprise(), surprise(next));
            for (int outcome : before) {
                checkOutcome(subject, outcome, late, strict);
            }
        }
    }

    private static int[] someInstruction(int variables) {
        int dice = random(20);
        if (dice == 0) {
            return new int[] {FENCE, 0, 0};
        }
        return dice < 10
            ? new int[] {STORE, random(variables), 1 + random(3)}
            : new int[] {LOAD, random(variables), 0};
    }

    /** One object through all of its 512 calls, with changes and questions mixed. */
    private static void checkLongUse() {
        for (int round = 0; round < 20; round++) {
            StoreQueues q = new StoreQueues();
            Model model = new Model();
            for (int call = 0; call < 512; call++) {
                int dice = random(100);
                int t = random(4);
                if (dice == 0) {
                    q.clear();
                    model = new Model();
                } else if (dice < 30) {
                    append(q, model, t, someInstruction(3));
                } else if (dice < 50) {
                    checkDrop(q, model, t);
                } else {
                    checkOne(q, model);
                }
            }
        }
    }

    private static void checkDrop(StoreQueues q, Model model, int t) {
        List<int[]> thread = model.threads.get(t);
        if (thread.isEmpty()) {
            due("drop", q.drop(t), -4);
        } else {
            thread.remove(thread.size() - 1);
            due("drop", q.drop(t), thread.size());
        }
    }

    private static void checkOne(StoreQueues q, Model model) {
        switch (random(6)) {
            case 0 -> due("size", q.size(), model.size());
            case 1 -> due("outcomes", q.outcomes(), model.outcomes(false).size());
            case 2 -> due("strictOutcomes", q.strictOutcomes(), model.outcomes(true).size());
            case 3 -> due("surprise", q.surprise(), surprise(model));
            case 4 -> due("outcome", q.outcome(0), model.outcomes(false).first());
            default -> due("fencesNeeded", q.fencesNeeded(), model.fencesNeeded());
        }
    }

    private static int surprise(Model model) {
        TreeSet<Integer> late = model.outcomes(false);
        late.removeAll(model.outcomes(true));
        return late.isEmpty() ? -4 : late.first();
    }

    private static void checkAll(Subject subject) {
        Model model = subject.model;
        TreeSet<Integer> late = model.outcomes(false);
        TreeSet<Integer> strict = model.outcomes(true);
        due("size", subject.ask().size(), model.size());
        due("outcomes", subject.ask().outcomes(), late.size());
        due("strictOutcomes", subject.ask().strictOutcomes(), strict.size());
        due("surprise", subject.ask().surprise(), surprise(model));
        due("fencesNeeded", subject.ask().fencesNeeded(), model.fencesNeeded());
        checkMembers(subject, late, strict);
        for (int k = -1; k <= 6; k++) {
            boolean there = k >= 0 && k < model.loads();
            due("finds", subject.ask().finds(k), there ? values(late, 2 * k) : -4);
        }
        for (int x = -1; x <= 3; x++) {
            due("ends", subject.ask().ends(x), x >= 0 && x < 3 ? values(late, 12 + 2 * x) : -1);
        }
        for (int k = -1; k <= model.loads(); k++) {
            for (int j = -1; j <= model.loads(); j++) {
                checkImplies(subject, late, k, j);
            }
        }
    }

    private static void checkMembers(Subject subject, TreeSet<Integer> late, TreeSet<Integer> strict) {
        int k = 0;
        due("outcome(-1)", subject.ask().outcome(-1), -4);
        for (int outcome : late) {
            due("outcome", subject.ask().outcome(k), outcome);
            k++;
            for (int near = outcome - 1; near <= outcome + 1; near++) {
                checkOutcome(subject, near, late, strict);
            }
        }
        due("outcome behind the last", subject.ask().outcome(k), -4);
    }

    private static void checkOutcome(Subject subject, int outcome, Set<Integer> late, Set<Integer> strict) {
        due("possible", subject.ask().possible(outcome) ? 1 : 0, late.contains(outcome) ? 1 : 0);
        due("strictlyPossible", subject.ask().strictlyPossible(outcome) ? 1 : 0, strict.contains(outcome) ? 1 : 0);
    }

    private static int values(Set<Integer> outcomes, int place) {
        int values = 0;
        for (int outcome : outcomes) {
            values |= 1 << (outcome >> place & 3);
        }
        return values;
    }

    private static void checkImplies(Subject subject, Set<Integer> late, int k, int j) {
        int loads = subject.model.loads();
        boolean there = k >= 0 && k < loads && j >= 0 && j < loads;
        for (int v = -1; v <= 4; v++) {
            for (int w = -1; w <= 4; w++) {
                boolean want = there && holds(late, k, v, j, w);
                due("implies", subject.ask().implies(k, v, j, w) ? 1 : 0, want ? 1 : 0);
            }
        }
    }

    private static boolean holds(Set<Integer> late, int k, int v, int j, int w) {
        for (int outcome : late) {
            if ((outcome >> 2 * k & 3) == v && (outcome >> 2 * j & 3) != w) {
                return false;
            }
        }
        return true;
    }
}
