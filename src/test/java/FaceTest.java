import java.lang.reflect.Constructor;
import java.lang.reflect.Field;
import java.lang.reflect.Method;
import java.lang.reflect.Modifier;
import java.util.Arrays;
import java.util.Set;
import java.util.TreeSet;

/** The members of the class that others can see are those of the document, and no other. */
public final class FaceTest {
    private static final Set<String> FACE = new TreeSet<>(Arrays.asList(
        "public static final int StoreQueues.BAD_ARG",
        "public static final int StoreQueues.FULL",
        "public static final int StoreQueues.NONE",
        "public StoreQueues()",
        "public int StoreQueues.store(int,int,int)",
        "public int StoreQueues.load(int,int)",
        "public int StoreQueues.fence(int)",
        "public int StoreQueues.drop(int)",
        "public void StoreQueues.clear()",
        "public int StoreQueues.size()",
        "public int StoreQueues.outcomes()",
        "public int StoreQueues.strictOutcomes()",
        "public int StoreQueues.outcome(int)",
        "public boolean StoreQueues.possible(int)",
        "public boolean StoreQueues.strictlyPossible(int)",
        "public int StoreQueues.surprise()",
        "public int StoreQueues.finds(int)",
        "public int StoreQueues.ends(int)",
        "public boolean StoreQueues.implies(int,int,int,int)",
        "public int StoreQueues.fencesNeeded()"));

    public static void main(String[] args) {
        Set<String> seen = new TreeSet<>();
        for (Field field : StoreQueues.class.getDeclaredFields()) {
            note(seen, field.getModifiers(), field.toString());
        }
        for (Constructor<?> constructor : StoreQueues.class.getDeclaredConstructors()) {
            note(seen, constructor.getModifiers(), constructor.toString());
        }
        for (Method method : StoreQueues.class.getDeclaredMethods()) {
            note(seen, method.getModifiers(), method.toString());
        }
        int modifiers = StoreQueues.class.getModifiers();
        boolean publicAndFinal = Modifier.isPublic(modifiers) && Modifier.isFinal(modifiers);
        if (!publicAndFinal || !seen.equals(FACE)) {
            System.out.println("the face is not the document's: " + seen);
            System.exit(1);
        }
        System.out.println("the face is the document's");
    }

    private static void note(Set<String> seen, int modifiers, String text) {
        if (!Modifier.isPrivate(modifiers)) {
            seen.add(text);
        }
    }
}
