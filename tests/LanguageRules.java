import com.sun.source.tree.AssignmentTree;
import com.sun.source.tree.BinaryTree;
import com.sun.source.tree.ClassTree;
import com.sun.source.tree.CompilationUnitTree;
import com.sun.source.tree.CompoundAssignmentTree;
import com.sun.source.tree.ExpressionTree;
import com.sun.source.tree.ForLoopTree;
import com.sun.source.tree.IdentifierTree;
import com.sun.source.tree.LiteralTree;
import com.sun.source.tree.MemberSelectTree;
import com.sun.source.tree.MethodInvocationTree;
import com.sun.source.tree.MethodTree;
import com.sun.source.tree.NewClassTree;
import com.sun.source.tree.StatementTree;
import com.sun.source.tree.Tree;
import com.sun.source.tree.UnaryTree;
import com.sun.source.tree.VariableTree;
import com.sun.source.util.JavacTask;
import com.sun.source.util.TreePath;
import com.sun.source.util.TreePathScanner;
import com.sun.source.util.Trees;
import java.io.IOException;
import java.nio.file.Path;
import java.util.ArrayList;
import java.util.EnumSet;
import java.util.HashMap;
import java.util.HashSet;
import java.util.List;
import java.util.Map;
import java.util.Set;
import javax.lang.model.element.Element;
import javax.lang.model.element.ElementKind;
import javax.lang.model.element.Modifier;
import javax.lang.model.element.TypeElement;
import javax.tools.JavaCompiler;
import javax.tools.StandardJavaFileManager;
import javax.tools.ToolProvider;

/**
 * The rules of LANGUAGE.md by their numbers, seen in the tree that javac makes of the source. It is
 * run from the root of the project, where it finds the source.
 */
public final class LanguageRules extends Sentences {
    private static final Path SOURCE = Path.of("src/main/java/Pairpictures.java");

    // What the class uses of rules 3 and 4; who uses more of them adds it here.
    private static final Set<String> TYPES = Set.of("void", "int", "long", "char", "boolean",
            "java.lang.String", "java.lang.StringBuilder", "int[]", "boolean[]",
            "Pairpictures.Table", "Pairpictures.Album", "Pairpictures.Walk");
    private static final Set<String> LIBRARY = Set.of("new Object()",
            "new StringBuilder()", "java.lang.StringBuilder.append(char)",
            "java.lang.StringBuilder.append(int)",
            "java.lang.StringBuilder.append(java.lang.String)",
            "java.lang.StringBuilder.setLength(int)", "java.lang.StringBuilder.length()",
            "java.lang.StringBuilder.charAt(int)", "java.lang.StringBuilder.toString()",
            "java.lang.System.arraycopy(java.lang.Object,int,java.lang.Object,int,int)",
            "new IndexOutOfBoundsException(java.lang.String)",
            "new IllegalArgumentException(java.lang.String)",
            "new IllegalStateException(java.lang.String)");
    private static final Set<String> CONSTANT_TYPES = Set.of("int", "long", "boolean", "char",
            "java.lang.String");

    // No divisor, no cast that could fail and no loop but a counted one is in the class at all.
    private static final Map<Tree.Kind, String> ABSENT = Map.ofEntries(
            Map.entry(Tree.Kind.IMPORT, "4"), Map.entry(Tree.Kind.PACKAGE, "1"),
            Map.entry(Tree.Kind.LAMBDA_EXPRESSION, "2"),
            Map.entry(Tree.Kind.MEMBER_REFERENCE, "2"), Map.entry(Tree.Kind.TRY, "6"),
            Map.entry(Tree.Kind.CATCH, "6"), Map.entry(Tree.Kind.SYNCHRONIZED, "6"),
            Map.entry(Tree.Kind.ASSERT, "6"), Map.entry(Tree.Kind.INSTANCE_OF, "6"),
            Map.entry(Tree.Kind.DIVIDE, "7"), Map.entry(Tree.Kind.REMAINDER, "7"),
            Map.entry(Tree.Kind.DIVIDE_ASSIGNMENT, "7"),
            Map.entry(Tree.Kind.REMAINDER_ASSIGNMENT, "7"),
            Map.entry(Tree.Kind.NULL_LITERAL, "7"), Map.entry(Tree.Kind.WHILE_LOOP, "9"),
            Map.entry(Tree.Kind.DO_WHILE_LOOP, "9"),
            Map.entry(Tree.Kind.ENHANCED_FOR_LOOP, "9"),
            Map.entry(Tree.Kind.SWITCH_EXPRESSION, "10"),
            Map.entry(Tree.Kind.ANNOTATION, "1"));

    private static Trees trees;
    private static CompilationUnitTree unit;
    private static final Map<Element, Uses> METHODS = new HashMap<>();

    /** What a method, or a loop's body, or a bound, calls, writes to and names. */
    private static final class Uses extends TreePathScanner<Void, Void> {
        final Set<Element> called = new HashSet<>();
        final Set<Element> written = new HashSet<>();
        final Set<Element> named = new HashSet<>();

        static Uses of(TreePath path) {
            Uses uses = new Uses();
            uses.scan(path, null);
            return uses;
        }

        private Element element(Tree tree) {
            return trees.getElement(new TreePath(getCurrentPath(), tree));
        }

        @Override
        public Void visitIdentifier(IdentifierTree tree, Void nothing) {
            named.add(trees.getElement(getCurrentPath()));
            return super.visitIdentifier(tree, nothing);
        }

        @Override
        public Void visitMemberSelect(MemberSelectTree tree, Void nothing) {
            named.add(trees.getElement(getCurrentPath()));
            return super.visitMemberSelect(tree, nothing);
        }

        @Override
        public Void visitMethodInvocation(MethodInvocationTree tree, Void nothing) {
            called.add(trees.getElement(getCurrentPath()));
            // A builder that something is put to counts as written to.
            if (tree.getMethodSelect() instanceof MemberSelectTree select
                    && (select.getIdentifier().contentEquals("append")
                    || select.getIdentifier().contentEquals("setLength"))) {
                written.add(element(select.getExpression()));
            }
            return super.visitMethodInvocation(tree, nothing);
        }

        @Override
        public Void visitNewClass(NewClassTree tree, Void nothing) {
            called.add(trees.getElement(getCurrentPath()));
            return super.visitNewClass(tree, nothing);
        }

        @Override
        public Void visitAssignment(AssignmentTree tree, Void nothing) {
            written.add(element(tree.getVariable()));
            return super.visitAssignment(tree, nothing);
        }

        @Override
        public Void visitCompoundAssignment(CompoundAssignmentTree tree, Void nothing) {
            written.add(element(tree.getVariable()));
            return super.visitCompoundAssignment(tree, nothing);
        }

        @Override
        public Void visitUnary(UnaryTree tree, Void nothing) {
            if (tree.getKind() != Tree.Kind.LOGICAL_COMPLEMENT
                    && tree.getKind() != Tree.Kind.UNARY_MINUS) {
                written.add(element(tree.getExpression()));
            }
            return super.visitUnary(tree, nothing);
        }
    }

    /** Goes over the whole source once. */
    private static final class Source extends TreePathScanner<Void, Void> {
        private final EnumSet<Tree.Kind> found = EnumSet.noneOf(Tree.Kind.class);
        private final List<TreePath> loops = new ArrayList<>();
        private int classes = 0;

        private String where(Tree tree) {
            long start = trees.getSourcePositions().getStartPosition(unit, tree);
            return "line " + unit.getLineMap().getLineNumber(start);
        }

        private long line(long position) {
            return unit.getLineMap().getLineNumber(position);
        }

        private void broken(String rule, Tree tree, String what) {
            fault("rule " + rule + ", " + where(tree) + ": " + what);
        }

        @Override
        public Void scan(Tree tree, Void nothing) {
            if (tree != null) {
                found.add(tree.getKind());
                String rule = ABSENT.get(tree.getKind());
                if (rule != null) {
                    broken(rule, tree, "a " + tree.getKind());
                }
            }
            return super.scan(tree, nothing);
        }

        private void type(Tree tree, Tree of) {
            if (of == null) {
                return;
            }
            String name = String.valueOf(trees.getTypeMirror(new TreePath(getCurrentPath(), of)));
            if (!TYPES.contains(name)) {
                broken("3", tree, "type " + name);
            }
        }

        @Override
        public Void visitClass(ClassTree tree, Void nothing) {
            classes++;
            int fields = 0;
            for (Tree member : tree.getMembers()) {
                if (member.getKind() == Tree.Kind.BLOCK) {
                    broken("5", member, "an initialiser block");
                }
                if (member instanceof VariableTree field) {
                    Set<Modifier> flags = field.getModifiers().getFlags();
                    fields += flags.contains(Modifier.STATIC) ? 0 : 1;
                    constant(field, flags);
                }
            }
            if (fields > 20) {
                broken("11", tree, fields + " fields");
            }
            return super.visitClass(tree, nothing);
        }

        private void constant(VariableTree field, Set<Modifier> flags) {
            if (!flags.contains(Modifier.PRIVATE)) {
                broken("1", field, "a field that is not private");
            }
            if (!flags.contains(Modifier.STATIC)) {
                return;
            }
            String type = String.valueOf(trees.getTypeMirror(
                    new TreePath(getCurrentPath(), field.getType())));
            if (!flags.contains(Modifier.FINAL) || !CONSTANT_TYPES.contains(type)
                    || field.getInitializer() == null) {
                broken("5", field, "a static field that is no constant");
            }
        }

        @Override
        public Void visitMethod(MethodTree tree, Void nothing) {
            Element method = trees.getElement(getCurrentPath());
            type(tree, tree.getReturnType());
            if (tree.getParameters().size() > 7) {
                broken("11", tree, tree.getParameters().size() + " parameters");
            }
            long end = trees.getSourcePositions().getEndPosition(unit, tree);
            long start = trees.getSourcePositions().getStartPosition(unit, tree);
            if (line(end) - line(start) >= 60) {
                broken("11", tree, tree.getName() + " has more than sixty lines");
            }
            String name = tree.getName().toString();
            if (Set.of("equals", "hashCode", "toString", "finalize").contains(name)) {
                broken("6", tree, "a method " + name);
            }
            METHODS.put(method, Uses.of(getCurrentPath()));
            return super.visitMethod(tree, nothing);
        }

        @Override
        public Void visitVariable(VariableTree tree, Void nothing) {
            type(tree, tree.getType());
            return super.visitVariable(tree, nothing);
        }

        private MethodTree enclosingMethod() {
            for (Tree above : getCurrentPath()) {
                if (above instanceof MethodTree method) {
                    return method;
                }
            }
            return null;
        }

        private void library(Tree tree, String type) {
            Element used = trees.getElement(getCurrentPath());
            String name = used.getKind() == ElementKind.CONSTRUCTOR
                    ? "new " + used : type + "." + used;
            if (!isOfSource(used) && !LIBRARY.contains(name)) {
                broken("4", tree, name);
            }
        }

        private boolean isOfSource(Element used) {
            return used.getEnclosingElement().toString().startsWith("Pairpictures");
        }

        private String receiver(MethodInvocationTree tree) {
            return tree.getMethodSelect() instanceof MemberSelectTree select
                    ? String.valueOf(trees.getTypeMirror(
                            new TreePath(getCurrentPath(), select.getExpression())))
                    : "";
        }

        @Override
        public Void visitMethodInvocation(MethodInvocationTree tree, Void nothing) {
            library(tree, receiver(tree));
            return super.visitMethodInvocation(tree, nothing);
        }

        /** Rule 12: objects are made in constructors, exceptions where thrown, none in a loop. */
        @Override
        public Void visitNewClass(NewClassTree tree, Void nothing) {
            library(tree, "");
            boolean isThrown = getCurrentPath().getParentPath().getLeaf().getKind()
                    == Tree.Kind.THROW;
            boolean isInConstructor = enclosingMethod() != null
                    && enclosingMethod().getName().contentEquals("<init>");
            if (isThrown == isInConstructor) {
                broken(isThrown ? "6" : "12", tree, "new " + tree.getIdentifier());
            }
            if (tree.getClassBody() != null) {
                broken("2", tree, "an anonymous class");
            }
            if (isThrown && (tree.getArguments().size() != 1
                    || tree.getArguments().get(0).getKind() != Tree.Kind.STRING_LITERAL)) {
                broken("6", tree, "an exception without a written text");
            }
            for (Tree above : getCurrentPath()) {
                if (above.getKind() == Tree.Kind.FOR_LOOP) {
                    broken("12", tree, "new in a loop");
                }
            }
            return super.visitNewClass(tree, nothing);
        }

        @Override
        public Void visitLiteral(LiteralTree tree, Void nothing) {
            String signs = tree.getValue() instanceof String || tree.getValue() instanceof Character
                    ? tree.getValue().toString() : "";
            for (int sign = 0; sign < signs.length(); sign++) {
                if (signs.charAt(sign) < 1 || signs.charAt(sign) > 127) {
                    broken("4", tree, "a sign that is not 1 to 127");
                }
            }
            return super.visitLiteral(tree, nothing);
        }

        private boolean isText(Tree tree) {
            return String.valueOf(trees.getTypeMirror(new TreePath(getCurrentPath(), tree)))
                    .equals("java.lang.String");
        }

        @Override
        public Void visitBinary(BinaryTree tree, Void nothing) {
            boolean isOfTexts = isText(tree.getLeftOperand()) || isText(tree.getRightOperand());
            if (isOfTexts) {
                broken(tree.getKind() == Tree.Kind.PLUS ? "10" : "6", tree, "texts and "
                        + tree.getKind());
            }
            return super.visitBinary(tree, nothing);
        }

        @Override
        public Void visitCompoundAssignment(CompoundAssignmentTree tree, Void nothing) {
            if (isText(tree.getVariable())) {
                broken("10", tree, "texts and " + tree.getKind());
            }
            return super.visitCompoundAssignment(tree, nothing);
        }

        @Override
        public Void visitForLoop(ForLoopTree tree, Void nothing) {
            loops.add(getCurrentPath());
            return super.visitForLoop(tree, nothing);
        }

        // ---- rule 9, when all methods are known

        void loopsEnd() {
            for (TreePath path : loops) {
                loopEnds(path, (ForLoopTree) path.getLeaf());
            }
        }

        private void loopEnds(TreePath path, ForLoopTree loop) {
            ExpressionTree condition = loop.getCondition();
            while (condition != null && condition.getKind() == Tree.Kind.CONDITIONAL_AND) {
                condition = ((BinaryTree) condition).getLeftOperand();
            }
            boolean isPlain = condition != null && loop.getInitializer().size() == 1
                    && loop.getUpdate().size() == 1
                    && (condition.getKind() == Tree.Kind.LESS_THAN
                    || condition.getKind() == Tree.Kind.LESS_THAN_EQUAL);
            if (!isPlain) {
                broken("9", loop, "a loop that does not count up to a bound");
                return;
            }
            StatementTree start = loop.getInitializer().get(0);
            String name = start instanceof VariableTree counter ? counter.getName().toString() : "";
            BinaryTree against = (BinaryTree) condition;
            if (!against.getLeftOperand().toString().equals(name)
                    || !loop.getUpdate().get(0).toString().equals(name + "++;")
                    && !loop.getUpdate().get(0).toString().equals(name + "++")) {
                broken("9", loop, "a loop whose counter is not the one that goes up");
            }
            boundStays(path, loop, start, against);
        }

        private void boundStays(TreePath path, ForLoopTree loop, Tree start, BinaryTree against) {
            Set<Element> written = writtenIn(Uses.of(new TreePath(path, loop.getStatement())));
            if (written.contains(trees.getElement(new TreePath(path, start)))) {
                broken("9", loop, "a loop that sets its own counter");
            }
            TreePath bound = new TreePath(new TreePath(path, against), against.getRightOperand());
            for (Element named : Uses.of(bound).named) {
                if (written.contains(named)) {
                    broken("9", loop, "a loop that may move its bound, " + named);
                }
            }
        }
    }

    /** All that is written to, in it or in what it calls. */
    private static Set<Element> writtenIn(Uses uses) {
        Set<Element> written = new HashSet<>(uses.written);
        Set<Element> seen = new HashSet<>();
        List<Element> open = new ArrayList<>(uses.called);
        while (!open.isEmpty()) {
            Element called = open.remove(open.size() - 1);
            Uses within = METHODS.get(called);
            if (within != null && seen.add(called)) {
                written.addAll(within.written);
                open.addAll(within.called);
            }
        }
        return written;
    }

    /** How many methods of the class stand open at once at most; rules 8 and 11. */
    private static int depth(Element method, List<Element> above) {
        if (above.contains(method)) {
            fault("rule 8: " + method + " calls itself");
            return 0;
        }
        above.add(method);
        int deepest = 0;
        for (Element called : METHODS.get(method).called) {
            if (METHODS.containsKey(called)) {
                deepest = Math.max(deepest, depth(called, above));
            }
        }
        above.remove(method);
        return deepest + 1;
    }

    private static void read() throws IOException {
        JavaCompiler compiler = ToolProvider.getSystemJavaCompiler();
        StandardJavaFileManager files = compiler.getStandardFileManager(null, null, null);
        JavacTask task = (JavacTask) compiler.getTask(null, files, null, List.of("-proc:none"),
                null, files.getJavaFileObjects(SOURCE));
        unit = task.parse().iterator().next();
        trees = Trees.instance(task);
        task.analyze();
    }

    public static void main(String[] args) throws IOException {
        about("LANGUAGE.md");
        read();
        Source source = new Source();
        source.scan(unit, null);
        source.loopsEnd();
        if (source.classes > 12) {
            fault("rule 11: " + source.classes + " classes");
        }
        if (unit.getTypeDecls().size() != 1) {
            fault("rule 1: more than one class");
        }
        for (Element method : METHODS.keySet()) {
            int deep = depth(method, new ArrayList<>());
            if (deep > 8) {
                fault("rule 11: calls go " + deep + " deep from " + method);
            }
            if (!(method.getEnclosingElement() instanceof TypeElement)) {
                fault("rule 2: " + method + " is of no class");
            }
        }
        if (source.loops.isEmpty() || METHODS.size() < 45 || source.found.size() < 20) {
            fault("the source was not seen as a whole");
        }
        end("rules of the language");
    }
}
