import com.sun.source.tree.AnnotationTree;
import com.sun.source.tree.ArrayAccessTree;
import com.sun.source.tree.AssertTree;
import com.sun.source.tree.AssignmentTree;
import com.sun.source.tree.BinaryTree;
import com.sun.source.tree.CatchTree;
import com.sun.source.tree.ClassTree;
import com.sun.source.tree.CompilationUnitTree;
import com.sun.source.tree.CompoundAssignmentTree;
import com.sun.source.tree.DoWhileLoopTree;
import com.sun.source.tree.ExpressionTree;
import com.sun.source.tree.ForLoopTree;
import com.sun.source.tree.IdentifierTree;
import com.sun.source.tree.LambdaExpressionTree;
import com.sun.source.tree.LiteralTree;
import com.sun.source.tree.MemberReferenceTree;
import com.sun.source.tree.MethodInvocationTree;
import com.sun.source.tree.MethodTree;
import com.sun.source.tree.NewArrayTree;
import com.sun.source.tree.NewClassTree;
import com.sun.source.tree.ParenthesizedTree;
import com.sun.source.tree.SynchronizedTree;
import com.sun.source.tree.ThrowTree;
import com.sun.source.tree.TryTree;
import com.sun.source.tree.UnaryTree;
import com.sun.source.tree.VariableTree;
import com.sun.source.tree.WhileLoopTree;
import com.sun.source.util.JavacTask;
import com.sun.source.util.SourcePositions;
import com.sun.source.util.TreePath;
import com.sun.source.util.TreePathScanner;
import com.sun.source.util.Trees;
import java.lang.reflect.Constructor;
import java.lang.reflect.Field;
import java.lang.reflect.Method;
import java.lang.reflect.Modifier;
import java.nio.file.Path;
import java.util.ArrayList;
import java.util.Arrays;
import java.util.HashMap;
import java.util.HashSet;
import java.util.List;
import java.util.Map;
import java.util.Set;
import java.util.TreeSet;
import javax.lang.model.element.Element;
import javax.lang.model.element.ElementKind;
import javax.lang.model.element.ExecutableElement;
import javax.lang.model.element.TypeElement;
import javax.tools.JavaCompiler;
import javax.tools.StandardJavaFileManager;
import javax.tools.ToolProvider;

/** The rules of LANGUAGE.md that can be read off the program's text or off the compiled class. */
public final class LanguageTest {
    private static final Check CHECK = new Check();
    private static final Path SOURCE = Path.of("src/main/java/BagPhrases.java");

    private static final Set<String> LIBRARY = Set.of("java.lang.System.arraycopy", "java.lang.Math.max",
        "java.lang.Math.min", "java.lang.Math.abs", "java.lang.Integer.bitCount", "java.lang.Object.<init>");

    /** Of the types of rule 3 those that the program uses; a class of its own is one, too. */
    private static final Set<String> TYPES = Set.of("int", "long", "boolean", "int[]", "long[]", "boolean[]");
    private static final Set<String> STATIC_TYPES = Set.of("int", "long", "boolean", "char", "java.lang.String");
    private static final Set<String> STATIC_ROWS = Set.of("int[]", "long[]", "char[]", "byte[]");

    private static final String[] FACE = {
        "int write(int)", "int wipe()", "int fault()", "int house()", "int about(int)", "int word(int,int)",
        "int letter(int,int)", "int put(int)", "int take(int)", "int bar(int)", "int rank(int,int)",
        "int allow(int,int,int)", "int undo()", "long many(int)", "long having(int)", "int best(int)",
        "int phrase(long,int)", "int tell(int)", "int clear()", "int why(int)", "long number()", "int nearly(int)",
        "int judge(int,long)", "int see(int,int,int)", "int unsee()", "int left(int)", "long share(int,boolean)",
        "int hope(int,boolean)", "long seed(long)", "int drawn(int)", "int keep(int)", "int again(int)",
    };

    public static void main(String[] args) throws Exception {
        face();
        text();
        CHECK.end();
    }

    private static void face() {
        CHECK.part("rule 1");
        CHECK.holds("the class is public and final", BagPhrases.class.getModifiers() == (Modifier.PUBLIC | Modifier.FINAL));
        Set<String> found = new TreeSet<>();
        Set<String> publicNames = new HashSet<>();
        for (Method method : BagPhrases.class.getDeclaredMethods()) {
            if (!Modifier.isPrivate(method.getModifiers())) {
                CHECK.holds(method + " is public and no more", method.getModifiers() == Modifier.PUBLIC);
                String types = String.join(",", Arrays.stream(method.getParameterTypes()).map(Class::getName).toList());
                found.add(method.getReturnType() + " " + method.getName() + "(" + types + ")");
                publicNames.add(method.getName());
            }
        }
        CHECK.holds("the calls are those of the document: " + found, found.equals(new TreeSet<>(List.of(FACE))));
        for (Method method : BagPhrases.class.getDeclaredMethods()) {
            CHECK.holds(method + " has a name of its own",
                !Modifier.isPrivate(method.getModifiers()) || !publicNames.contains(method.getName()));
        }
        Set<String> constants = new TreeSet<>();
        for (Field field : BagPhrases.class.getDeclaredFields()) {
            if (!Modifier.isPrivate(field.getModifiers())) {
                constants.add(field.getName());
            }
        }
        CHECK.holds("the constants are those of the document", constants.equals(Set.of("UNKNOWN", "BAD", "LATE", "FULL", "NONE")));
        Constructor<?>[] makers = BagPhrases.class.getDeclaredConstructors();
        CHECK.holds("one constructor, public", makers.length == 1 && makers[0].getModifiers() == Modifier.PUBLIC
            && makers[0].getParameterCount() == 0);
    }

    private static void text() throws Exception {
        JavaCompiler compiler = ToolProvider.getSystemJavaCompiler();
        try (StandardJavaFileManager files = compiler.getStandardFileManager(null, null, null)) {
            JavacTask task = (JavacTask) compiler.getTask(null, files, null, List.of("-proc:none"), null,
                files.getJavaFileObjects(SOURCE));
            CompilationUnitTree unit = task.parse().iterator().next();
            task.analyze();
            CHECK.part("the text");
            CHECK.holds("rule 4: no package, no imports", unit.getPackageName() == null && unit.getImports().isEmpty());
            Rules rules = new Rules(Trees.instance(task), unit);
            rules.scan(unit, null);
            rules.end();
        }
    }

    private static final class Rules extends TreePathScanner<Void, Void> {
        private final Trees trees;
        private final CompilationUnitTree unit;
        private final SourcePositions positions;
        private final Map<Element, Set<Element>> calls = new HashMap<>();
        private final List<Element> overrides = new ArrayList<>();
        private Element method = null;
        private int classes = 0;

        Rules(Trees trees, CompilationUnitTree unit) {
            this.trees = trees;
            this.unit = unit;
            this.positions = trees.getSourcePositions();
        }

        private long line(long position) {
            return unit.getLineMap().getLineNumber(position);
        }

        private Void refuse(String what, com.sun.source.tree.Tree tree) {
            CHECK.holds(what + " in line " + line(positions.getStartPosition(unit, tree)), false);
            return null;
        }

        @Override
        public Void visitThrow(ThrowTree tree, Void none) {
            return refuse("rule 6: throw", tree);
        }

        @Override
        public Void visitTry(TryTree tree, Void none) {
            return refuse("rule 6: try", tree);
        }

        @Override
        public Void visitCatch(CatchTree tree, Void none) {
            return refuse("rule 6: catch", tree);
        }

        @Override
        public Void visitSynchronized(SynchronizedTree tree, Void none) {
            return refuse("rule 6: synchronized", tree);
        }

        @Override
        public Void visitAssert(AssertTree tree, Void none) {
            return refuse("rule 6: assert", tree);
        }

        @Override
        public Void visitLambdaExpression(LambdaExpressionTree tree, Void none) {
            return refuse("rule 2: a lambda", tree);
        }

        @Override
        public Void visitMemberReference(MemberReferenceTree tree, Void none) {
            return refuse("rule 2: a method reference", tree);
        }

        @Override
        public Void visitAnnotation(AnnotationTree tree, Void none) {
            return refuse("rule 4: an annotation", tree);
        }

        @Override
        public Void visitClass(ClassTree tree, Void none) {
            classes++;
            boolean nested = getCurrentPath().getParentPath().getLeaf() instanceof ClassTree;
            Set<javax.lang.model.element.Modifier> flags = tree.getModifiers().getFlags();
            CHECK.holds("rule 1: a class inside is static and not public: " + tree.getSimpleName(),
                !nested || flags.contains(javax.lang.model.element.Modifier.STATIC)
                    && !flags.contains(javax.lang.model.element.Modifier.PUBLIC));
            long fields = tree.getMembers().stream().filter(member -> member instanceof VariableTree)
                .filter(member -> !((VariableTree) member).getModifiers().getFlags()
                    .contains(javax.lang.model.element.Modifier.STATIC)).count();
            CHECK.holds("rule 11: some twenty fields at most in " + tree.getSimpleName(), fields <= 20);
            return super.visitClass(tree, none);
        }

        @Override
        public Void visitVariable(VariableTree tree, Void none) {
            String type = trees.getTypeMirror(getCurrentPath()).toString();
            CHECK.holds("rule 3: the type of " + tree.getName() + ", " + type,
                TYPES.contains(type) || type.startsWith("BagPhrases.") && !type.endsWith("[][]"));
            Set<javax.lang.model.element.Modifier> flags = tree.getModifiers().getFlags();
            if (flags.contains(javax.lang.model.element.Modifier.STATIC)) {
                CHECK.holds("rule 5: a static field is final: " + tree.getName(),
                    flags.contains(javax.lang.model.element.Modifier.FINAL));
                CHECK.holds("rule 5: a static field is a constant, or a row that is written out: " + tree.getName(),
                    STATIC_TYPES.contains(type) || STATIC_ROWS.contains(type) && tree.getInitializer() instanceof NewArrayTree row
                        && row.getInitializers() != null);
            }
            return super.visitVariable(tree, none);
        }

        @Override
        public Void visitAssignment(AssignmentTree tree, Void none) {
            changed(tree.getVariable());
            return super.visitAssignment(tree, none);
        }

        @Override
        public Void visitCompoundAssignment(CompoundAssignmentTree tree, Void none) {
            changed(tree.getVariable());
            return super.visitCompoundAssignment(tree, none);
        }

        @Override
        public Void visitUnary(UnaryTree tree, Void none) {
            String kind = tree.getKind().toString();
            if (kind.contains("INCREMENT") || kind.contains("DECREMENT")) {
                changed(tree.getExpression());
            }
            return super.visitUnary(tree, none);
        }

        private void changed(ExpressionTree variable) {
            if (variable instanceof ArrayAccessTree element) {
                Element row = trees.getElement(new TreePath(getCurrentPath(), element.getExpression()));
                CHECK.holds("rule 5: a static row is never changed: " + element,
                    row == null || !row.getModifiers().contains(javax.lang.model.element.Modifier.STATIC));
            }
        }

        @Override
        public Void visitBinary(BinaryTree tree, Void none) {
            CHECK.holds("rule 10: texts are not joined by +: " + tree,
                !trees.getTypeMirror(getCurrentPath()).toString().equals("java.lang.String"));
            return super.visitBinary(tree, none);
        }

        @Override
        public Void visitWhileLoop(WhileLoopTree tree, Void none) {
            ending(tree.getCondition(), tree);
            return super.visitWhileLoop(tree, none);
        }

        @Override
        public Void visitDoWhileLoop(DoWhileLoopTree tree, Void none) {
            ending(tree.getCondition(), tree);
            return super.visitDoWhileLoop(tree, none);
        }

        @Override
        public Void visitForLoop(ForLoopTree tree, Void none) {
            ending(tree.getCondition(), tree);
            return super.visitForLoop(tree, none);
        }

        private void ending(ExpressionTree condition, com.sun.source.tree.Tree loop) {
            ExpressionTree inside = condition instanceof ParenthesizedTree brackets ? brackets.getExpression() : condition;
            if (inside == null || inside instanceof LiteralTree) {
                refuse("rule 9: a loop without an end", loop);
                return;
            }
            boolean bounded = inside.toString().matches(".*(<|>|<=|>=).*");
            CHECK.holds("rule 9: a counter against a bound: " + inside, bounded);
        }

        @Override
        public Void visitMethod(MethodTree tree, Void none) {
            long first = line(positions.getStartPosition(unit, tree));
            long last = line(positions.getEndPosition(unit, tree));
            CHECK.holds("rule 11: some sixty lines at most in " + tree.getName(), last - first < 60);
            CHECK.holds("rule 11: seven parameters at most in " + tree.getName(), tree.getParameters().size() <= 7);
            Element outside = method;
            method = trees.getElement(getCurrentPath());
            overrides.add(method);
            calls.computeIfAbsent(method, key -> new HashSet<>());
            super.visitMethod(tree, none);
            method = outside;
            return null;
        }

        @Override
        public Void visitMethodInvocation(MethodInvocationTree tree, Void none) {
            called(trees.getElement(new TreePath(getCurrentPath(), tree.getMethodSelect())), tree);
            return super.visitMethodInvocation(tree, none);
        }

        @Override
        public Void visitNewClass(NewClassTree tree, Void none) {
            CHECK.holds("rule 2: no anonymous class", tree.getClassBody() == null);
            called(trees.getElement(getCurrentPath()), tree);
            return super.visitNewClass(tree, none);
        }

        @Override
        public Void visitIdentifier(IdentifierTree tree, Void none) {
            String name = tree.getName().toString();
            CHECK.holds("rule 3: no doubles are needed", !name.equals("Double") && !name.equals("Float"));
            return super.visitIdentifier(tree, none);
        }

        private void called(Element target, com.sun.source.tree.Tree tree) {
            String owner = ((TypeElement) target.getEnclosingElement()).getQualifiedName().toString();
            // A library call is one more call that stands open, so it is counted among them.
            if (method != null) {
                calls.get(method).add(target);
            }
            CHECK.holds("rule 12: a constructor calls no method: " + tree, method == null
                || method.getKind() != ElementKind.CONSTRUCTOR || target.getKind() == ElementKind.CONSTRUCTOR);
            if (!owner.startsWith("BagPhrases") && !LIBRARY.contains(owner + "." + target.getSimpleName())) {
                refuse("rule 4: " + owner + "." + target.getSimpleName(), tree);
            }
        }

        void end() {
            CHECK.holds("rule 11: some twelve classes at most, not " + classes, classes <= 12);
            for (Element each : calls.keySet()) {
                List<Element> path = longest(each, new ArrayList<>());
                CHECK.holds("rule 11: calls eight deep at most: " + path, path.size() <= 8);
            }
        }

        /** A call of an abstract method is a call of each method of its name and number of parameters. */
        private Set<Element> targets(Element called) {
            if (!called.getModifiers().contains(javax.lang.model.element.Modifier.ABSTRACT)) {
                return Set.of(called);
            }
            Set<Element> targets = new HashSet<>();
            for (Element each : overrides) {
                if (each.getSimpleName().equals(called.getSimpleName())
                    && ((ExecutableElement) each).getParameters().size() == ((ExecutableElement) called).getParameters().size()) {
                    targets.add(each);
                }
            }
            return targets;
        }

        private List<Element> longest(Element from, List<Element> open) {
            List<Element> longest = List.of();
            if (open.contains(from)) {
                CHECK.holds("no recursion: " + from, false);
                return longest;
            }
            open.add(from);
            for (Element called : calls.getOrDefault(from, Set.of())) {
                for (Element target : targets(called)) {
                    List<Element> path = longest(target, open);
                    longest = path.size() > longest.size() ? path : longest;
                }
            }
            open.remove(open.size() - 1);
            List<Element> path = new ArrayList<>(List.of(from));
            path.addAll(longest);
            return path;
        }
    }
}
