import com.sun.source.tree.ArrayAccessTree;
import com.sun.source.tree.BinaryTree;
import com.sun.source.tree.ClassTree;
import com.sun.source.tree.CompilationUnitTree;
import com.sun.source.tree.CompoundAssignmentTree;
import com.sun.source.tree.ForLoopTree;
import com.sun.source.tree.LineMap;
import com.sun.source.tree.LiteralTree;
import com.sun.source.tree.MethodInvocationTree;
import com.sun.source.tree.MethodTree;
import com.sun.source.tree.NewArrayTree;
import com.sun.source.tree.NewClassTree;
import com.sun.source.tree.Tree;
import com.sun.source.tree.VariableTree;
import com.sun.source.util.JavacTask;
import com.sun.source.util.SourcePositions;
import com.sun.source.util.TreePathScanner;
import com.sun.source.util.Trees;
import java.io.IOException;
import java.nio.file.Files;
import java.nio.file.Path;
import java.util.EnumSet;
import java.util.HashMap;
import java.util.HashSet;
import java.util.List;
import java.util.Map;
import java.util.Set;
import java.util.TreeMap;
import java.util.TreeSet;
import javax.lang.model.element.Element;
import javax.lang.model.element.Modifier;
import javax.tools.JavaCompiler;
import javax.tools.StandardJavaFileManager;
import javax.tools.ToolProvider;

/** The rules of ../shared/LANGUAGE.md as far as they can be read off the class; the class keeps to a smaller part yet. */
public final class RulesTest {
    private static final Path MAIN = Path.of("src", "main", "java", "AnchorWills.java");
    private static final int PARAMETERS = 7, LINES = 60, DEPTH = 8, CLASSES = 12, FIELDS = 20;

    private static final Set<Tree.Kind> KINDS = EnumSet.of(Tree.Kind.COMPILATION_UNIT, Tree.Kind.CLASS, Tree.Kind.METHOD,
        Tree.Kind.VARIABLE, Tree.Kind.MODIFIERS, Tree.Kind.PRIMITIVE_TYPE, Tree.Kind.ARRAY_TYPE, Tree.Kind.IDENTIFIER,
        Tree.Kind.MEMBER_SELECT, Tree.Kind.METHOD_INVOCATION, Tree.Kind.NEW_CLASS, Tree.Kind.NEW_ARRAY, Tree.Kind.ARRAY_ACCESS,
        Tree.Kind.BLOCK, Tree.Kind.EXPRESSION_STATEMENT, Tree.Kind.RETURN, Tree.Kind.IF, Tree.Kind.FOR_LOOP, Tree.Kind.SWITCH,
        Tree.Kind.CASE, Tree.Kind.BREAK, Tree.Kind.PARENTHESIZED, Tree.Kind.CONDITIONAL_EXPRESSION, Tree.Kind.ASSIGNMENT,
        Tree.Kind.PLUS_ASSIGNMENT, Tree.Kind.MULTIPLY_ASSIGNMENT, Tree.Kind.OR_ASSIGNMENT, Tree.Kind.AND_ASSIGNMENT,
        Tree.Kind.POSTFIX_INCREMENT, Tree.Kind.POSTFIX_DECREMENT, Tree.Kind.PLUS, Tree.Kind.MINUS, Tree.Kind.MULTIPLY,
        Tree.Kind.DIVIDE, Tree.Kind.REMAINDER, Tree.Kind.AND, Tree.Kind.OR, Tree.Kind.LEFT_SHIFT, Tree.Kind.RIGHT_SHIFT,
        Tree.Kind.UNARY_MINUS, Tree.Kind.BITWISE_COMPLEMENT, Tree.Kind.LOGICAL_COMPLEMENT, Tree.Kind.CONDITIONAL_AND,
        Tree.Kind.CONDITIONAL_OR, Tree.Kind.EQUAL_TO, Tree.Kind.NOT_EQUAL_TO, Tree.Kind.LESS_THAN, Tree.Kind.LESS_THAN_EQUAL,
        Tree.Kind.GREATER_THAN, Tree.Kind.GREATER_THAN_EQUAL, Tree.Kind.INT_LITERAL, Tree.Kind.CHAR_LITERAL,
        Tree.Kind.BOOLEAN_LITERAL, Tree.Kind.NULL_LITERAL);
    private static final Set<String> LIBRARY = Set.of("Integer.bitCount", "Math.max", "Math.min", "System.arraycopy", "Object.<init>");
    /** The only bodies that use an index or a divisor that is no constant; each tests it first. */
    private static final Set<String> TEST_THEIR_INDEX = Set.of("at", "put", "fill"), TEST_THEIR_DIVISOR = Set.of("divided", "commonPart");
    private static final Set<String> CALL_THEMSELVES = Set.of("Berths.lays", "Kinds.markAs");

    private static String source;
    private static CompilationUnitTree unit;
    private static Trees trees;
    private static SourcePositions positions;

    public static void main(String[] args) throws IOException {
        source = Files.readString(MAIN);
        JavaCompiler compiler = ToolProvider.getSystemJavaCompiler();
        try (StandardJavaFileManager files = compiler.getStandardFileManager(null, null, null)) {
            JavacTask task = (JavacTask) compiler.getTask(null, files, null, null, null, files.getJavaFileObjects(MAIN));
            unit = task.parse().iterator().next();
            task.analyze();
            trees = Trees.instance(task);
            positions = trees.getSourcePositions();
            Look look = new Look();
            look.scan(unit, null);
            look.ends();
        }
        Check.end();
    }

    private static void rule(int number, String what, boolean isKept, Tree where) {
        LineMap lines = unit.getLineMap();
        long line = where == null ? 0 : lines.getLineNumber(positions.getStartPosition(unit, where));
        Check.due("rule " + number + ", line " + line + ": " + what, isKept ? 1 : 0, 1);
    }

    private static final class Look extends TreePathScanner<Void, Void> {
        private final Set<String> classes = new TreeSet<>();
        private final Set<String> publicNames = new HashSet<>();
        private final Map<String, Tree> privateNames = new TreeMap<>();
        private final Map<String, Set<String>> calls = new HashMap<>();
        private String method = "";
        private String fullName = "";

        @Override
        public Void scan(Tree tree, Void nothing) {
            if (tree != null) {
                rule(2, "a kind of words that the class does without: " + tree.getKind(), KINDS.contains(tree.getKind()), tree);
            }
            return super.scan(tree, nothing);
        }

        @Override
        public Void visitCompilationUnit(CompilationUnitTree tree, Void nothing) {
            rule(1, "no package line", tree.getPackageName() == null, tree);
            rule(4, "no import", tree.getImports().isEmpty(), tree);
            rule(1, "one class in the file", tree.getTypeDecls().size() == 1, tree);
            ClassTree main = (ClassTree) tree.getTypeDecls().get(0);
            classes.add(main.getSimpleName().toString());
            main.getMembers().stream().filter(m -> m instanceof ClassTree).forEach(m -> classes.add(((ClassTree) m).getSimpleName().toString()));
            return super.visitCompilationUnit(tree, nothing);
        }

        @Override
        public Void visitClass(ClassTree tree, Void nothing) {
            String name = tree.getSimpleName().toString();
            Set<Modifier> how = tree.getModifiers().getFlags();
            rule(1, name + " is public, or private and static",
                how.contains(Modifier.PUBLIC) ? name.equals("AnchorWills") : how.containsAll(Set.of(Modifier.PRIVATE, Modifier.STATIC)), tree);
            rule(1, name + " is final", how.contains(Modifier.FINAL), tree);
            long fields = tree.getMembers().stream().filter(m -> m instanceof VariableTree v && !isStatic(v)).count();
            rule(11, name + " has " + fields + " fields", fields <= FIELDS, tree);
            rule(5, "no static initialiser", tree.getMembers().stream().noneMatch(m -> m.getKind() == Tree.Kind.BLOCK), tree);
            for (Tree member : tree.getMembers()) {
                if (member instanceof VariableTree field && isStatic(field)) {
                    constant(field);
                }
            }
            return super.visitClass(tree, nothing);
        }

        private static boolean isStatic(VariableTree tree) {
            return tree.getModifiers().getFlags().contains(Modifier.STATIC);
        }

        private static void constant(VariableTree field) {
            rule(5, field.getName() + " is final", field.getModifiers().getFlags().contains(Modifier.FINAL), field);
            String type = field.getType().toString();
            rule(5, field.getName() + " is an int, or ints written out", type.equals("int")
                || type.equals("int[]") && field.getInitializer() instanceof NewArrayTree row && row.getInitializers() != null, field);
        }

        @Override
        public Void visitMethod(MethodTree tree, Void nothing) {
            method = tree.getName().toString();
            fullName = fullName(trees.getElement(getCurrentPath()));
            Set<Modifier> how = tree.getModifiers().getFlags();
            rule(1, method + " is public or private", how.contains(Modifier.PUBLIC) != how.contains(Modifier.PRIVATE), tree);
            if (how.contains(Modifier.PUBLIC)) {
                publicNames.add(method);
            } else if (!method.equals("<init>")) {
                privateNames.put(method, tree);
            }
            rule(6, "none of " + method, !Set.of("equals", "hashCode", "toString").contains(method), tree);
            rule(6, method + " throws nothing", tree.getThrows().isEmpty(), tree);
            rule(8, method + " calls itself and is static", !CALL_THEMSELVES.contains(fullName) || how.contains(Modifier.STATIC), tree);
            rule(11, method + " takes too much", tree.getParameters().size() <= PARAMETERS, tree);
            LineMap lines = unit.getLineMap();
            long first = lines.getLineNumber(positions.getStartPosition(unit, tree));
            long last = lines.getLineNumber(positions.getEndPosition(unit, tree));
            rule(11, method + " is too long", last - first < LINES, tree);
            calls.computeIfAbsent(fullName, name -> new TreeSet<>());
            super.visitMethod(tree, nothing);
            method = "";
            fullName = "";
            return null;
        }

        /** What stands in no method stands in a field, which the constructor of its class makes. */
        private String maker(String name) {
            Tree parent = getCurrentPath().getParentPath().getParentPath().getLeaf();
            return !name.isEmpty() ? name : (parent instanceof ClassTree of ? of.getSimpleName() : "") + ".<init>";
        }

        private static String fullName(Element of) {
            return of.getEnclosingElement().getSimpleName() + "." + of.getSimpleName();
        }

        @Override
        public Void visitMethodInvocation(MethodInvocationTree tree, Void nothing) {
            String called = fullName(trees.getElement(getCurrentPath()));
            boolean isOwn = classes.contains(called.substring(0, called.indexOf('.')));
            rule(4, "a call of the library: " + called, isOwn || LIBRARY.contains(called), tree);
            calls.computeIfAbsent(maker(fullName), name -> new TreeSet<>()).add(called);
            return super.visitMethodInvocation(tree, nothing);
        }

        @Override
        public Void visitVariable(VariableTree tree, Void nothing) {
            String type = tree.getType().toString();
            boolean isOwn = type.matches("[A-Z][a-z]+");
            rule(3, "type " + type, isOwn || Set.of("int", "int[]", "long", "boolean").contains(type), tree);
            return super.visitVariable(tree, nothing);
        }

        @Override
        public Void visitNewClass(NewClassTree tree, Void nothing) {
            rule(12, "an object is made by a constructor or a field alone", method.equals("<init>") || method.isEmpty(), tree);
            rule(2, "no class without a name", tree.getClassBody() == null, tree);
            String made = fullName(trees.getElement(getCurrentPath()));
            rule(4, "an object of the library: " + made, classes.contains(made.substring(0, made.indexOf('.'))), tree);
            calls.computeIfAbsent(maker(fullName), name -> new TreeSet<>()).add(made);
            return super.visitNewClass(tree, nothing);
        }

        @Override
        public Void visitNewArray(NewArrayTree tree, Void nothing) {
            rule(12, "a row is made by a field alone", method.isEmpty(), tree);
            rule(3, "rows have one dimension", tree.getDimensions().size() <= 1, tree);
            return super.visitNewArray(tree, nothing);
        }

        @Override
        public Void visitForLoop(ForLoopTree tree, Void nothing) {
            boolean counts = tree.getInitializer().size() == 1 && tree.getUpdate().size() == 1 && tree.getCondition() != null;
            rule(9, "a loop counts against a bound", counts && tree.getUpdate().get(0).toString().matches("(\\w+)\\+\\+;?"), tree);
            String counter = counts && tree.getInitializer().get(0) instanceof VariableTree v ? v.getName().toString() : "";
            rule(9, "its counter is bounded", counts && tree.getCondition().toString().matches("(\\(?)" + counter + " <=? .*"), tree);
            rule(9, "its counter is changed there alone", !counter.isEmpty()
                && !tree.getStatement().toString().matches("(?s).*\\b" + counter + " [-+*|&]?= .*"), tree);
            return super.visitForLoop(tree, nothing);
        }

        @Override
        public Void visitArrayAccess(ArrayAccessTree tree, Void nothing) {
            rule(7, "an index is used where it is tested alone", TEST_THEIR_INDEX.contains(method), tree);
            return super.visitArrayAccess(tree, nothing);
        }

        @Override
        public Void visitBinary(BinaryTree tree, Void nothing) {
            if (tree.getKind() == Tree.Kind.DIVIDE || tree.getKind() == Tree.Kind.REMAINDER) {
                boolean isConstant = tree.getRightOperand().toString().equals("IN_A_WORD");
                rule(7, "a divisor is used where it is tested alone", isConstant || TEST_THEIR_DIVISOR.contains(method), tree);
            }
            return super.visitBinary(tree, nothing);
        }

        @Override
        public Void visitCompoundAssignment(CompoundAssignmentTree tree, Void nothing) {
            rule(7, "no divisor in an assignment", !Set.of(Tree.Kind.DIVIDE_ASSIGNMENT, Tree.Kind.REMAINDER_ASSIGNMENT)
                .contains(tree.getKind()), tree);
            return super.visitCompoundAssignment(tree, nothing);
        }

        @Override
        public Void visitLiteral(LiteralTree tree, Void nothing) {
            rule(10, "no text at all", !(tree.getValue() instanceof String), tree);
            return super.visitLiteral(tree, nothing);
        }

        private void ends() {
            rule(11, classes.size() + " classes", classes.size() <= CLASSES, null);
            privateNames.forEach((name, tree) -> rule(1, "private " + name + " is public, too", !publicNames.contains(name), tree));
            for (String word : List.of("throw", "try", "catch", "synchronized", "assert", "instanceof", "while", "do", "->", "::")) {
                boolean stands = source.replaceAll("(?s)/\\*.*?\\*/|//[^\n]*", "").matches("(?s).*(?<!\\w)" + word + "(?!\\w).*");
                rule(6, "the class does without " + word, !stands, null);
            }
            calls.forEach((name, called) -> {
                rule(8, name + " calls itself", !called.contains(name) || CALL_THEMSELVES.contains(name), null);
                rule(11, name + " goes deep", depth(name, 1) <= DEPTH, null);
            });
        }

        /** A round among several methods is found as one that is too deep. */
        private int depth(String name, int level) {
            int deepest = level;
            for (String next : calls.getOrDefault(name, Set.of())) {
                if (!next.equals(name) && level <= DEPTH) {
                    deepest = Math.max(deepest, depth(next, level + 1));
                }
            }
            return deepest;
        }
    }
}
