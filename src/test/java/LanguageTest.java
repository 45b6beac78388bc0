import com.sun.source.tree.ArrayAccessTree;
import com.sun.source.tree.BinaryTree;
import com.sun.source.tree.ClassTree;
import com.sun.source.tree.CompilationUnitTree;
import com.sun.source.tree.ExpressionTree;
import com.sun.source.tree.ForLoopTree;
import com.sun.source.tree.LiteralTree;
import com.sun.source.tree.MethodInvocationTree;
import com.sun.source.tree.MethodTree;
import com.sun.source.tree.NewArrayTree;
import com.sun.source.tree.NewClassTree;
import com.sun.source.tree.Tree;
import com.sun.source.tree.VariableTree;
import com.sun.source.tree.WhileLoopTree;
import com.sun.source.util.JavacTask;
import com.sun.source.util.TreePath;
import com.sun.source.util.TreePathScanner;
import com.sun.source.util.Trees;
import java.nio.file.Files;
import java.nio.file.Path;
import java.util.ArrayList;
import java.util.EnumSet;
import java.util.HashMap;
import java.util.HashSet;
import java.util.List;
import java.util.Map;
import java.util.Set;
import javax.lang.model.element.Element;
import javax.lang.model.element.ElementKind;
import javax.lang.model.element.Modifier;
import javax.lang.model.element.VariableElement;
import javax.lang.model.type.TypeKind;
import javax.lang.model.type.TypeMirror;
import javax.tools.StandardJavaFileManager;
import javax.tools.ToolProvider;

/**
 * The rules of ../shared/LANGUAGE.md, held against RodBoard.java as javac itself reads it. The test is
 * narrower than the rules where the program needs less than they allow: what it uses beyond this must
 * be looked up there and put in here.
 */
public final class LanguageTest {
    private static final Path SOURCE = Path.of("src/main/java/RodBoard.java");
    private static final int MOST_LINES = 60;
    private static final int MOST_DEEP = 8;
    private static final Set<Tree.Kind> KINDS = EnumSet.of(
        Tree.Kind.COMPILATION_UNIT, Tree.Kind.CLASS, Tree.Kind.MODIFIERS, Tree.Kind.METHOD, Tree.Kind.VARIABLE,
        Tree.Kind.BLOCK, Tree.Kind.IF, Tree.Kind.FOR_LOOP, Tree.Kind.WHILE_LOOP, Tree.Kind.SWITCH, Tree.Kind.CASE,
        Tree.Kind.RETURN, Tree.Kind.BREAK, Tree.Kind.CONTINUE, Tree.Kind.EXPRESSION_STATEMENT,
        Tree.Kind.METHOD_INVOCATION, Tree.Kind.NEW_CLASS, Tree.Kind.NEW_ARRAY, Tree.Kind.ARRAY_ACCESS,
        Tree.Kind.MEMBER_SELECT, Tree.Kind.IDENTIFIER, Tree.Kind.PARENTHESIZED, Tree.Kind.CONDITIONAL_EXPRESSION,
        Tree.Kind.TYPE_CAST, Tree.Kind.PRIMITIVE_TYPE, Tree.Kind.ARRAY_TYPE, Tree.Kind.INT_LITERAL,
        Tree.Kind.LONG_LITERAL, Tree.Kind.BOOLEAN_LITERAL, Tree.Kind.ASSIGNMENT, Tree.Kind.PLUS_ASSIGNMENT, Tree.Kind.MINUS_ASSIGNMENT,
        Tree.Kind.MULTIPLY_ASSIGNMENT, Tree.Kind.POSTFIX_INCREMENT, Tree.Kind.POSTFIX_DECREMENT,
        Tree.Kind.UNARY_MINUS, Tree.Kind.LOGICAL_COMPLEMENT, Tree.Kind.PLUS, Tree.Kind.MINUS, Tree.Kind.MULTIPLY,
        Tree.Kind.DIVIDE, Tree.Kind.REMAINDER, Tree.Kind.AND, Tree.Kind.CONDITIONAL_AND, Tree.Kind.CONDITIONAL_OR,
        Tree.Kind.EQUAL_TO, Tree.Kind.NOT_EQUAL_TO, Tree.Kind.LESS_THAN, Tree.Kind.LESS_THAN_EQUAL,
        Tree.Kind.GREATER_THAN, Tree.Kind.GREATER_THAN_EQUAL);
    private static final Due due = new Due("LanguageTest");
    private static Trees trees;
    private static CompilationUnitTree unit;

    public static void main(String[] args) throws Exception {
        JavacTask task;
        try (StandardJavaFileManager files = ToolProvider.getSystemJavaCompiler().getStandardFileManager(null, null, null)) {
            task = (JavacTask) ToolProvider.getSystemJavaCompiler().getTask(
                null, files, null, List.of("-proc:none"), null, files.getJavaFileObjects(SOURCE));
            unit = task.parse().iterator().next();
            task.analyze();
        }
        trees = Trees.instance(task);
        oneFile();
        lines();
        Reader reader = new Reader();
        reader.scan(unit, null);
        reader.callsEnd();
        due.end();
    }

    private static void holds(String rule, boolean holds) {
        due.is(rule, holds ? 1 : 0, 1);
    }

    private static void oneFile() throws Exception {
        due.is("rule 1: one class in the file", unit.getTypeDecls().size(), 1);
        holds("rule 1: no package line", unit.getPackage() == null);
        due.is("rule 4: nothing is imported", unit.getImports().size(), 0);
        try (java.util.stream.Stream<Path> files = Files.walk(Path.of("src/main"))) {
            due.is("one file", files.filter(Files::isRegularFile).count(), 1);
        }
    }

    private static void lines() throws Exception {
        String text = Files.readString(SOURCE);
        holds("no tabs", text.indexOf('\t') < 0);
        for (String line : text.split("\n")) holds("short line: " + line, line.length() <= 120);
        holds("signs 1 to 127", text.chars().allMatch(sign -> sign > 0 && sign < 128));
    }

    /** Goes through the whole file once; each rule is looked at where it can be broken. */
    private static final class Reader extends TreePathScanner<Void, Void> {
        private final Map<String, Set<String>> calls = new HashMap<>();
        private final Set<String> publicNames = new HashSet<>();
        private final List<String> privateNames = new ArrayList<>();
        private int classes;

        @Override
        public Void scan(Tree tree, Void unused) {
            if (tree != null && !KINDS.contains(tree.getKind())) {
                holds("rules 2, 3, 6, 10: no " + tree.getKind() + ": " + tree, false);
            }
            return super.scan(tree, unused);
        }

        private Element element(Tree tree) {
            return trees.getElement(new TreePath(getCurrentPath(), tree));
        }

        private Element here() {
            return trees.getElement(getCurrentPath());
        }

        private TypeMirror type(Tree tree) {
            return trees.getTypeMirror(new TreePath(getCurrentPath(), tree));
        }

        private static boolean isOwn(Element of) {
            return of != null && (of.toString().equals("RodBoard") || of.toString().startsWith("RodBoard."));
        }

        private String lexically(Class<?> kind) {
            for (TreePath path = getCurrentPath(); path != null; path = path.getParentPath()) {
                if (kind.isInstance(path.getLeaf())) return path.getLeaf().toString();
            }
            return "";
        }

        private MethodTree method() {
            for (TreePath path = getCurrentPath(); path != null; path = path.getParentPath()) {
                if (path.getLeaf() instanceof MethodTree) return (MethodTree) path.getLeaf();
            }
            return null;
        }

        @Override
        public Void visitClass(ClassTree tree, Void unused) {
            Set<Modifier> modifiers = tree.getModifiers().getFlags();
            classes++;
            if (classes == 1) {
                holds("rule 1: public and final", modifiers.equals(Set.of(Modifier.PUBLIC, Modifier.FINAL)));
            } else {
                holds("rule 2: private, static, final: " + tree.getSimpleName(),
                    modifiers.equals(Set.of(Modifier.PRIVATE, Modifier.STATIC, Modifier.FINAL)));
                holds("a name of its own", here().getEnclosingElement().toString().equals("RodBoard"));
            }
            holds("extends and implements nothing", tree.getExtendsClause() == null && tree.getImplementsClause().isEmpty());
            holds("no type parameters", tree.getTypeParameters().isEmpty());
            holds("rule 11: some twelve classes", classes <= 12);
            long fields = tree.getMembers().stream().filter(member -> member instanceof VariableTree)
                .filter(member -> !((VariableTree) member).getModifiers().getFlags().contains(Modifier.STATIC)).count();
            holds("rule 11: some twenty fields: " + tree.getSimpleName(), fields <= 20);
            holds("rule 5: no static block", tree.getMembers().stream().noneMatch(member -> member.getKind() == Tree.Kind.BLOCK));
            return super.visitClass(tree, unused);
        }

        private static boolean isKnownType(TypeMirror type) {
            if (type.getKind().isPrimitive()) return type.getKind() != TypeKind.FLOAT && type.getKind() != TypeKind.DOUBLE;
            if (type.getKind() == TypeKind.ARRAY) return type.toString().matches("(int|long|boolean)\\[\\]");
            return type.toString().startsWith("RodBoard.");
        }

        @Override
        public Void visitVariable(VariableTree tree, Void unused) {
            Element variable = here();
            holds("rule 3: type of " + tree, isKnownType(variable.asType()));
            if (variable.getKind() == ElementKind.FIELD) {
                Set<Modifier> modifiers = variable.getModifiers();
                boolean isConstant = modifiers.contains(Modifier.STATIC);
                holds("rule 5: final: " + tree, !isConstant || modifiers.contains(Modifier.FINAL));
                boolean isReference = !variable.asType().getKind().isPrimitive();
                holds("rule 7: never null: " + tree,
                    !isReference || tree.getInitializer() != null && modifiers.contains(Modifier.FINAL));
            } else if (!variable.asType().getKind().isPrimitive()) {
                holds("rule 7: a reference is handed on, not kept: " + tree, variable.getKind() == ElementKind.PARAMETER);
            }
            return super.visitVariable(tree, unused);
        }

        @Override
        public Void visitMethod(MethodTree tree, Void unused) {
            String name = tree.getName().toString();
            holds("rule 11: seven parameters: " + name, tree.getParameters().size() <= 7);
            holds("rule 6: throws nothing: " + name, tree.getThrows().isEmpty());
            long from = trees.getSourcePositions().getStartPosition(unit, tree);
            long to = trees.getSourcePositions().getEndPosition(unit, tree);
            if (to > from) {
                long lines = unit.getLineMap().getLineNumber(to) - unit.getLineMap().getLineNumber(from) + 1;
                holds("rule 11: a short method: " + name, lines <= MOST_LINES);
            }
            boolean isPublic = tree.getModifiers().getFlags().contains(Modifier.PUBLIC);
            if (isPublic && here().getKind() == ElementKind.METHOD) publicNames.add(name);
            if (!isPublic && here().getKind() == ElementKind.METHOD) privateNames.add(name);
            calls.putIfAbsent(id(here()), new HashSet<>());
            return super.visitMethod(tree, unused);
        }

        private static String id(Element method) {
            return method.getEnclosingElement() + "." + method;
        }

        @Override
        public Void visitMethodInvocation(MethodInvocationTree tree, Void unused) {
            Element called = here();
            if (isOwn(called.getEnclosingElement())) {
                MethodTree caller = method();
                if (caller != null) calls.computeIfAbsent(id(trees.getElement(trees.getPath(unit, caller))),
                    made -> new HashSet<>()).add(id(called));
            } else if (!called.toString().equals("Object()")) {
                holds("rule 4: " + tree, called.getEnclosingElement().toString().equals("java.lang.Math")
                    && called.getSimpleName().toString().matches("abs|min|max|floorDiv|floorMod"));
            }
            return super.visitMethodInvocation(tree, unused);
        }

        @Override
        public Void visitNewClass(NewClassTree tree, Void unused) {
            isMadeWithTheObject(tree);
            holds("rule 4: of its own: " + tree, isOwn(here().getEnclosingElement()));
            return super.visitNewClass(tree, unused);
        }

        @Override
        public Void visitNewArray(NewArrayTree tree, Void unused) {
            isMadeWithTheObject(tree);
            for (ExpressionTree length : tree.getDimensions()) {
                holds("rule 7: a length that is known: " + tree, length.toString().matches("[A-Z_0-9 ()+*]+"));
            }
            return super.visitNewArray(tree, unused);
        }

        /** Rule 12: no call makes anything, so a run's room is that of its objects alone. */
        private void isMadeWithTheObject(Tree tree) {
            Tree parent = getCurrentPath().getParentPath().getLeaf();
            Element field = trees.getElement(getCurrentPath().getParentPath());
            holds("rule 12: made with the object: " + tree,
                parent instanceof VariableTree && field.getKind() == ElementKind.FIELD);
        }

        @Override
        public Void visitArrayAccess(ArrayAccessTree tree, Void unused) {
            String text = lexically(MethodTree.class);
            String array = tree.getExpression().toString();
            String index = tree.getIndex().toString();
            holds("rule 7: a plain index: " + tree, index.matches("[a-z]\\w*"));
            holds("rule 7: looked at before: " + tree,
                text.contains(index + " < " + array + ".length") || text.contains(index + " >= " + array + ".length"));
            holds("rule 7: not below 0: " + tree, text.contains(index + " >= 0") || text.contains(index + " < 0")
                || text.contains("int " + index + " = 0") || text.contains("int " + index + " = k + 1"));
            return super.visitArrayAccess(tree, unused);
        }

        @Override
        public Void visitBinary(BinaryTree tree, Void unused) {
            boolean parts = tree.getKind() == Tree.Kind.DIVIDE || tree.getKind() == Tree.Kind.REMAINDER;
            if (parts) holds("rule 7: a divisor that is looked at: " + tree, isLookedAt(tree.getRightOperand()));
            return super.visitBinary(tree, unused);
        }

        private boolean isLookedAt(ExpressionTree divisor) {
            if (divisor instanceof LiteralTree) return ((Number) ((LiteralTree) divisor).getValue()).longValue() != 0;
            Element named = element(divisor);
            Object constant = named instanceof VariableElement ? ((VariableElement) named).getConstantValue() : null;
            if (constant instanceof Number) return ((Number) constant).longValue() != 0;
            String text = lexically(MethodTree.class);
            return text.contains(divisor + " == 0") || text.contains(divisor + " != 0") || text.contains(divisor + " <= 0");
        }

        @Override
        public Void visitForLoop(ForLoopTree tree, Void unused) {
            holds("rule 9: a counter against a bound: " + tree.getCondition(),
                tree.getCondition() != null && tree.getCondition().toString().matches(".* (<|<=|>|>=) .*"));
            String counters = tree.getUpdate().toString();
            holds("rule 9: that is counted: " + counters, counters.matches("\\w+(\\+\\+|--);?"));
            String counter = counters.replaceAll("\\W", "");
            holds("rule 9: the counter is the bound's: " + tree.getCondition(),
                tree.getCondition().toString().matches(".*\\b" + counter + "\\b.*"));
            holds("rule 9: and left alone: " + counter,
                !tree.getStatement().toString().matches("(?s).*\\b" + counter + " ?(=|\\+=|-=|\\+\\+|--)[^=].*"));
            return super.visitForLoop(tree, unused);
        }

        @Override
        public Void visitWhileLoop(WhileLoopTree tree, Void unused) {
            String condition = tree.getCondition().toString();
            holds("rule 9: a bound: " + condition, condition.matches("\\((\\w+) < MOST_\\w+ && .*"));
            String counter = condition.replaceAll("^\\((\\w+) .*", "$1");
            holds("rule 9: that is come to: " + counter, tree.getStatement().toString().contains(counter + "++"));
            return super.visitWhileLoop(tree, unused);
        }

        void callsEnd() {
            for (String name : privateNames) holds("rule 1: no name of the face: " + name, !publicNames.contains(name));
            due.is("methods of the face", publicNames.size(), 38);
            for (String method : calls.keySet()) {
                due.is("rules 8, 11: calls from " + method, Math.min(depth(method, 1), MOST_DEEP + 1) > MOST_DEEP ? 1 : 0, 0);
            }
        }

        /** How many calls stand open at once, at most; a recursion would go beyond the bound. */
        private int depth(String method, int above) {
            int deepest = above;
            if (above > MOST_DEEP) return above;
            for (String called : calls.getOrDefault(method, Set.of())) {
                deepest = Math.max(deepest, depth(called, above + 1));
            }
            return deepest;
        }
    }
}
