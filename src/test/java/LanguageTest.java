import com.sun.source.tree.ClassTree;
import com.sun.source.tree.CompilationUnitTree;
import com.sun.source.tree.ExpressionTree;
import com.sun.source.tree.MemberSelectTree;
import com.sun.source.tree.MethodInvocationTree;
import com.sun.source.tree.MethodTree;
import com.sun.source.tree.NewArrayTree;
import com.sun.source.tree.Tree;
import com.sun.source.tree.Tree.Kind;
import com.sun.source.tree.TypeCastTree;
import com.sun.source.tree.VariableTree;
import com.sun.source.util.JavacTask;
import com.sun.source.util.SourcePositions;
import com.sun.source.util.TreeScanner;
import com.sun.source.util.Trees;
import java.io.File;
import java.io.IOException;
import java.util.EnumSet;
import java.util.HashMap;
import java.util.Map;
import java.util.Set;
import java.util.TreeMap;
import java.util.TreeSet;
import javax.lang.model.element.Modifier;
import javax.tools.JavaCompiler;
import javax.tools.StandardJavaFileManager;
import javax.tools.ToolProvider;

/**
 * Holds the source of the class to those rules of LANGUAGE.md that can be read off its text. Whether
 * a loop ends and an index fits (rules 7 and 8) is left to the tests that run the class.
 */
public final class LanguageTest {
    private static final String SOURCE = "src/main/java/StoreQueues.java";
    private static final int MOST_PARAMETERS = 7;
    private static final int MOST_LINES = 60;
    private static final int MOST_DEPTH = 6;
    private static final int MOST_FIELDS = 40;

    /** What methods may be made of; all that rules 2, 3, 4 and 6 rule out is of another kind. */
    private static final Set<Kind> ALLOWED = EnumSet.of(
        Kind.METHOD, Kind.MODIFIERS, Kind.VARIABLE, Kind.PRIMITIVE_TYPE, Kind.ARRAY_TYPE, Kind.BLOCK,
        Kind.IF, Kind.FOR_LOOP, Kind.WHILE_LOOP, Kind.DO_WHILE_LOOP, Kind.SWITCH, Kind.CASE,
        Kind.BREAK, Kind.CONTINUE, Kind.LABELED_STATEMENT, Kind.RETURN, Kind.EXPRESSION_STATEMENT,
        Kind.CONDITIONAL_EXPRESSION, Kind.CONDITIONAL_AND, Kind.CONDITIONAL_OR, Kind.LOGICAL_COMPLEMENT,
        Kind.PARENTHESIZED, Kind.IDENTIFIER, Kind.ARRAY_ACCESS, Kind.METHOD_INVOCATION, Kind.TYPE_CAST,
        Kind.EMPTY_STATEMENT,
        Kind.INT_LITERAL, Kind.LONG_LITERAL, Kind.CHAR_LITERAL, Kind.BOOLEAN_LITERAL,
        Kind.ASSIGNMENT, Kind.POSTFIX_INCREMENT, Kind.POSTFIX_DECREMENT,
        Kind.PREFIX_INCREMENT, Kind.PREFIX_DECREMENT,
        Kind.PLUS, Kind.MINUS, Kind.MULTIPLY, Kind.DIVIDE, Kind.REMAINDER, Kind.UNARY_MINUS,
        Kind.LEFT_SHIFT, Kind.RIGHT_SHIFT, Kind.UNSIGNED_RIGHT_SHIFT,
        Kind.AND, Kind.OR, Kind.XOR, Kind.BITWISE_COMPLEMENT,
        Kind.LESS_THAN, Kind.GREATER_THAN, Kind.LESS_THAN_EQUAL, Kind.GREATER_THAN_EQUAL,
        Kind.EQUAL_TO, Kind.NOT_EQUAL_TO);

    private static final Set<String> NUMBER_TYPES = Set.of("int", "long", "short", "byte", "char", "boolean");

    private static int wrong = 0;
    private static final Map<String, Long> constants = new HashMap<>();
    private static final Map<String, Set<String>> calls = new TreeMap<>();
    private static int fields = 0;

    public static void main(String[] args) throws IOException {
        JavaCompiler compiler = ToolProvider.getSystemJavaCompiler();
        try (StandardJavaFileManager files = compiler.getStandardFileManager(null, null, null)) {
            JavacTask task = (JavacTask) compiler.getTask(
                null, files, null, null, null, files.getJavaFileObjects(new File(SOURCE)));
            CompilationUnitTree unit = task.parse().iterator().next();
            checkUnit(unit, Trees.instance(task).getSourcePositions());
        }
        System.out.println(wrong == 0 ? "the source keeps to the rules" : wrong + " breaches of the rules");
        if (wrong != 0) {
            System.exit(1);
        }
    }

    private static void rule(int number, boolean kept, String what) {
        if (!kept) {
            wrong++;
            System.out.println("rule " + number + " of LANGUAGE.md: " + what);
        }
    }

    private static void checkUnit(CompilationUnitTree unit, SourcePositions positions) {
        rule(1, unit.getPackage() == null, "a package line");
        rule(3, unit.getImports().isEmpty(), "an import");
        rule(1, unit.getTypeDecls().size() == 1, "more than one class");
        ClassTree type = (ClassTree) unit.getTypeDecls().get(0);
        rule(1, type.getKind() == Kind.CLASS && type.getExtendsClause() == null
            && type.getImplementsClause().isEmpty(), "not a plain class");
        for (Tree member : type.getMembers()) {
            if (member instanceof VariableTree field) {
                checkField(field);
            } else if (member instanceof MethodTree method) {
                checkMethod(method, linesOf(unit, positions, method));
            } else {
                rule(1, false, "a member that is neither field nor method: " + member.getKind());
            }
        }
        rule(10, fields <= MOST_FIELDS, fields + " fields");
        for (String name : calls.keySet()) {
            checkDepth(name);
        }
    }

    private static void checkField(VariableTree field) {
        checkType(field.getType());
        ExpressionTree start = field.getInitializer();
        if (field.getModifiers().getFlags().contains(Modifier.STATIC)) {
            checkConstant(field);
            return;
        }
        fields++;
        if (field.getType().getKind() == Kind.ARRAY_TYPE) {
            rule(4, start instanceof NewArrayTree made && made.getInitializers() == null
                && made.getDimensions().size() == 1 && numberOf(made.getDimensions().get(0)) >= 1,
                "an array whose length is no constant of 1 or more: " + field);
        } else {
            rule(3, start == null || ALLOWED.contains(start.getKind()), "the start of " + field);
        }
    }

    private static void checkConstant(VariableTree field) {
        String type = field.getType().toString();
        boolean fixed = field.getModifiers().getFlags().contains(Modifier.FINAL);
        rule(5, fixed && (type.equals("int") || type.equals("long")), "a static field that is no constant: " + field);
        if (field.getInitializer() != null && !type.endsWith("]")) {
            constants.put(field.getName().toString(), numberOf(field.getInitializer()));
        }
    }

    /** The value of a literal or of a constant's name; 0, which no array may have as length, of all else. */
    private static long numberOf(ExpressionTree text) {
        if (constants.containsKey(text.toString())) {
            return constants.get(text.toString());
        }
        return text.toString().matches("-?[0-9]{1,9}") ? Long.parseLong(text.toString()) : 0;
    }

    private static void checkType(Tree type) {
        String name = type.toString();
        boolean number = NUMBER_TYPES.contains(name);
        boolean array = name.endsWith("[]") && NUMBER_TYPES.contains(name.substring(0, name.length() - 2));
        rule(2, number || array, "the type " + name);
    }

    private static long linesOf(CompilationUnitTree unit, SourcePositions positions, Tree tree) {
        long first = unit.getLineMap().getLineNumber(positions.getStartPosition(unit, tree));
        return unit.getLineMap().getLineNumber(positions.getEndPosition(unit, tree)) - first + 1;
    }

    private static void checkMethod(MethodTree method, long lines) {
        String name = method.getName().toString();
        rule(1, !calls.containsKey(name), "two methods named " + name);
        rule(10, method.getParameters().size() <= MOST_PARAMETERS, name + " has too many parameters");
        rule(10, lines <= MOST_LINES, name + " has " + lines + " lines");
        rule(6, method.getThrows().isEmpty(), name + " says it throws");
        Tree answer = method.getReturnType();
        rule(4, answer == null || answer.getKind() == Kind.PRIMITIVE_TYPE, name + " answers " + answer);
        calls.put(name, new TreeSet<>());
        new BodyScanner(name).scan(method, null);
    }

    private static boolean isAllowed(Tree tree) {
        boolean compound = tree.getKind().name().endsWith("_ASSIGNMENT");
        boolean lengthOfArray = tree instanceof MemberSelectTree select && select.getIdentifier().contentEquals("length");
        return compound || lengthOfArray || ALLOWED.contains(tree.getKind());
    }

    private static int ruleAgainst(Kind kind) {
        return switch (kind) {
            case STRING_LITERAL, FLOAT_LITERAL, DOUBLE_LITERAL -> 2;
            case MEMBER_SELECT -> 3;
            case NEW_ARRAY, NEW_CLASS, NULL_LITERAL -> 4;
            default -> 6;
        };
    }

    private static final class BodyScanner extends TreeScanner<Void, Void> {
        private final String name;
        private int argumentsAround = 0;

        BodyScanner(String name) {
            this.name = name;
        }

        @Override
        public Void scan(Tree tree, Void nothing) {
            if (tree != null && !isAllowed(tree)) {
                rule(ruleAgainst(tree.getKind()), false, name + " has " + tree.getKind() + ": " + tree);
            }
            return super.scan(tree, nothing);
        }

        @Override
        public Void visitTypeCast(TypeCastTree cast, Void nothing) {
            rule(6, cast.getType().getKind() == Kind.PRIMITIVE_TYPE, name + " has a cast of a reference: " + cast);
            checkType(cast.getType());
            return super.visitTypeCast(cast, nothing);
        }

        @Override
        public Void visitVariable(VariableTree variable, Void nothing) {
            checkType(variable.getType());
            return super.visitVariable(variable, nothing);
        }

        @Override
        public Void visitMethodInvocation(MethodInvocationTree call, Void nothing) {
            rule(10, argumentsAround == 0, name + " has a call inside the arguments of another: " + call);
            String called = call.getMethodSelect().toString();
            // The parser itself puts this one into a constructor that has no other.
            if (!called.equals("super")) {
                calls.get(name).add(called);
            }
            argumentsAround++;
            scan(call.getArguments(), nothing);
            argumentsAround--;
            return null;
        }
    }

    /** Follows the calls level by level; with recursion the levels never end, so that it shows as depth. */
    private static void checkDepth(String name) {
        Set<String> level = Set.of(name);
        int depth = 0;
        while (!level.isEmpty() && depth <= MOST_DEPTH) {
            Set<String> next = new TreeSet<>();
            for (String called : level) {
                rule(3, calls.containsKey(called), "a call out of the class: " + called);
                next.addAll(calls.getOrDefault(called, Set.of()));
            }
            level = next;
            depth++;
        }
        rule(8, level.isEmpty(), "calls from " + name + " go more than " + MOST_DEPTH + " deep, or in a ring");
    }
}
