import com.sun.source.tree.AssertTree;
import com.sun.source.tree.BlockTree;
import com.sun.source.tree.ClassTree;
import com.sun.source.tree.CompilationUnitTree;
import com.sun.source.tree.DoWhileLoopTree;
import com.sun.source.tree.ExpressionTree;
import com.sun.source.tree.ForLoopTree;
import com.sun.source.tree.ImportTree;
import com.sun.source.tree.LambdaExpressionTree;
import com.sun.source.tree.MemberReferenceTree;
import com.sun.source.tree.MethodInvocationTree;
import com.sun.source.tree.MethodTree;
import com.sun.source.tree.NewArrayTree;
import com.sun.source.tree.NewClassTree;
import com.sun.source.tree.StatementTree;
import com.sun.source.tree.SynchronizedTree;
import com.sun.source.tree.ThrowTree;
import com.sun.source.tree.Tree;
import com.sun.source.tree.TryTree;
import com.sun.source.tree.TypeCastTree;
import com.sun.source.tree.VariableTree;
import com.sun.source.tree.WhileLoopTree;
import com.sun.source.util.JavacTask;
import com.sun.source.util.TreePath;
import com.sun.source.util.TreePathScanner;
import com.sun.source.util.Trees;
import java.nio.file.Path;
import java.util.ArrayList;
import java.util.HashMap;
import java.util.HashSet;
import java.util.LinkedHashMap;
import java.util.List;
import java.util.Map;
import java.util.Set;
import javax.lang.model.element.Element;
import javax.lang.model.element.ElementKind;
import javax.lang.model.element.ExecutableElement;
import javax.lang.model.element.Modifier;
import javax.lang.model.element.TypeElement;
import javax.lang.model.type.ArrayType;
import javax.lang.model.type.DeclaredType;
import javax.lang.model.type.TypeMirror;
import javax.tools.JavaCompiler;
import javax.tools.StandardJavaFileManager;
import javax.tools.ToolProvider;

/** The class keeps to the rules 2 to 13 of LANGUAGE.md, as far as the compiler's own tree of it shows them. */
public final class HexLoomLanguage {
    private static final Path SOURCE = Path.of("src/main/java/HexLoom.java");
    /** All of rule 4's library that the class uses; so rule 13 has nothing to find either. */
    private static final Set<String> LIBRARY = Set.of("java.lang.System.arraycopy", "java.lang.Math.min",
            "java.lang.Math.max", "java.lang.Object.<init>");
    private static final int MOST_LINES = 60;
    private static final int MOST_PARAMETERS = 7;
    private static final int MOST_CLASSES = 12;
    private static final int MOST_FIELDS = 20;
    private static final int DEEPEST = 8;

    private static int wrong = 0;

    private static void due(int rule, String what, boolean kept) {
        if (!kept) {
            wrong++;
            System.out.println("rule " + rule + ": " + what);
        }
    }

    public static void main(String[] args) throws Exception {
        JavaCompiler compiler = ToolProvider.getSystemJavaCompiler();
        StandardJavaFileManager files = compiler.getStandardFileManager(null, null, null);
        JavacTask task = (JavacTask) compiler.getTask(null, files, null, List.of("-proc:none", "--release", "17"), null,
                files.getJavaFileObjects(SOURCE));
        CompilationUnitTree unit = task.parse().iterator().next();
        task.analyze();
        due(2, "one class stands in the file", unit.getTypeDecls().size() == 1);
        due(1, "no package line", unit.getPackage() == null);

        Reader reader = new Reader(Trees.instance(task), unit);
        reader.scan(unit, null);
        due(11, "at most some twelve classes, not " + reader.classes.size(), reader.classes.size() <= MOST_CLASSES);
        new Depths(reader.calls).look();
        due(0, "the tree was read: calls of " + reader.calls.size() + " methods", reader.calls.size() > 50);

        System.out.println(wrong == 0 ? "the class keeps to the rules" : wrong + " places are outside the rules");
        if (wrong != 0) {
            System.exit(1);
        }
    }

    /** Looks at every part of the file, and notes which method calls which. */
    private static final class Reader extends TreePathScanner<Void, Void> {
        private final Trees trees;
        private final CompilationUnitTree unit;
        final List<TypeElement> classes = new ArrayList<>();
        final Map<ExecutableElement, Set<ExecutableElement>> calls = new LinkedHashMap<>();
        private ExecutableElement within;

        Reader(Trees trees, CompilationUnitTree unit) {
            this.trees = trees;
            this.unit = unit;
        }

        private long line(Tree tree) {
            return unit.getLineMap().getLineNumber(trees.getSourcePositions().getStartPosition(unit, tree));
        }

        private long lastLine(Tree tree) {
            return unit.getLineMap().getLineNumber(trees.getSourcePositions().getEndPosition(unit, tree));
        }

        private void never(int rule, String what, Tree tree) {
            due(rule, what + " in line " + line(tree), false);
        }

        private static boolean isOwn(Element element) {
            Element at = element;
            while (at != null && at.getKind() != ElementKind.PACKAGE) {
                if (at.getSimpleName().contentEquals("HexLoom")) {
                    return true;
                }
                at = at.getEnclosingElement();
            }
            return false;
        }

        @Override
        public Void visitImport(ImportTree tree, Void none) {
            never(4, "an import", tree);
            return super.visitImport(tree, none);
        }

        @Override
        public Void visitClass(ClassTree tree, Void none) {
            TypeElement element = (TypeElement) trees.getElement(getCurrentPath());
            classes.add(element);
            if (!element.getSimpleName().contentEquals("HexLoom")) {
                due(2, element + " is static", element.getModifiers().contains(Modifier.STATIC));
                due(1, element + " is not public or protected", !element.getModifiers().contains(Modifier.PUBLIC)
                        && !element.getModifiers().contains(Modifier.PROTECTED));
            }
            int fields = 0;
            for (Element member : element.getEnclosedElements()) {
                boolean isStatic = member.getModifiers().contains(Modifier.STATIC);
                fields += member.getKind() == ElementKind.FIELD && !isStatic ? 1 : 0;
            }
            due(11, element + " has some twenty fields, not " + fields, fields <= MOST_FIELDS);
            for (Tree member : tree.getMembers()) {
                due(5, "no initialiser block in line " + line(member), !(member instanceof BlockTree));
            }
            return super.visitClass(tree, none);
        }

        @Override
        public Void visitVariable(VariableTree tree, Void none) {
            Element element = trees.getElement(getCurrentPath());
            due(3, tree.getName() + " in line " + line(tree) + " has a type of " + element.asType(),
                    isTypeOfTheRules(element.asType()));
            if (element.getKind() == ElementKind.FIELD && element.getModifiers().contains(Modifier.STATIC)) {
                due(5, tree.getName() + " is final", element.getModifiers().contains(Modifier.FINAL));
                due(5, tree.getName() + " is written out", tree.getInitializer() != null);
                due(5, tree.getName() + " is of int, long, boolean, char, String or a row of such",
                        Set.of("int", "long", "boolean", "char", "java.lang.String", "int[]", "long[]", "char[]", "byte[]")
                                .contains(element.asType().toString()));
            }
            return super.visitVariable(tree, none);
        }

        private static boolean isTypeOfTheRules(TypeMirror type) {
            if (type instanceof ArrayType) {
                return ((ArrayType) type).getComponentType().getKind().isPrimitive();
            }
            return type.getKind().isPrimitive()
                    || type instanceof DeclaredType && isOwn(((DeclaredType) type).asElement());
        }

        @Override
        public Void visitMethod(MethodTree tree, Void none) {
            ExecutableElement before = within;
            within = (ExecutableElement) trees.getElement(getCurrentPath());
            calls.put(within, new HashSet<>());
            due(11, within + " takes at most seven", tree.getParameters().size() <= MOST_PARAMETERS);
            if (lastLine(tree) > 0) {
                long lines = lastLine(tree) - line(tree) + 1;
                due(11, within + " has some sixty lines, not " + lines, lines <= MOST_LINES);
            }
            due(6, within + " throws nothing", tree.getThrows().isEmpty());
            for (String name : List.of("equals", "hashCode", "toString", "finalize", "clone")) {
                due(6, "no " + name + " of its own", !tree.getName().contentEquals(name));
            }
            super.visitMethod(tree, none);
            within = before;
            return null;
        }

        @Override
        public Void visitMethodInvocation(MethodInvocationTree tree, Void none) {
            ExecutableElement called = (ExecutableElement) trees.getElement(getCurrentPath());
            noteCall(called, tree);
            boolean inConstructor = within != null && within.getKind() == ElementKind.CONSTRUCTOR;
            if (inConstructor && called.getKind() == ElementKind.METHOD && isOwn(called)) {
                boolean fixed = called.getEnclosingElement().getModifiers().contains(Modifier.FINAL)
                        || called.getModifiers().contains(Modifier.PRIVATE)
                        || called.getModifiers().contains(Modifier.STATIC);
                due(12, "the constructor of " + within.getEnclosingElement() + " calls " + called
                        + ", which none overrides", fixed);
            }
            return super.visitMethodInvocation(tree, none);
        }

        private void noteCall(ExecutableElement called, Tree tree) {
            if (isOwn(called)) {
                due(9, "a call outside of all methods in line " + line(tree), within != null);
                if (within != null) {
                    calls.get(within).add(called);
                }
                return;
            }
            String name = called.getEnclosingElement() + "." + called.getSimpleName();
            due(4, name + " in line " + line(tree) + " is not of the library", LIBRARY.contains(name));
        }

        @Override
        public Void visitNewClass(NewClassTree tree, Void none) {
            due(2, "no anonymous class in line " + line(tree), tree.getClassBody() == null);
            noteCall((ExecutableElement) trees.getElement(getCurrentPath()), tree);
            madeInAConstructor(tree);
            return super.visitNewClass(tree, none);
        }

        @Override
        public Void visitNewArray(NewArrayTree tree, Void none) {
            if (tree.getDimensions().isEmpty()) {
                due(5, "a row in line " + line(tree) + " is written out for a constant", within == null);
            } else {
                madeInAConstructor(tree);
            }
            return super.visitNewArray(tree, none);
        }

        /** Stricter than rule 12, and what README.md says: so the room that a run takes is that of its objects. */
        private void madeInAConstructor(Tree tree) {
            due(12, "what is made in line " + line(tree) + " is made by a constructor",
                    within != null && within.getKind() == ElementKind.CONSTRUCTOR);
        }

        @Override
        public Void visitBlock(BlockTree tree, Void none) {
            for (StatementTree statement : tree.getStatements()) {
                due(2, "no local class in line " + line(statement), !(statement instanceof ClassTree));
            }
            return super.visitBlock(tree, none);
        }

        private void looped(ExpressionTree condition, Tree tree) {
            boolean bound = condition != null && condition.toString().matches(".*[<>].*");
            due(9, "the loop in line " + line(tree) + " has a bound", bound);
        }

        @Override
        public Void visitForLoop(ForLoopTree tree, Void none) {
            looped(tree.getCondition(), tree);
            return super.visitForLoop(tree, none);
        }

        @Override
        public Void visitWhileLoop(WhileLoopTree tree, Void none) {
            looped(tree.getCondition(), tree);
            return super.visitWhileLoop(tree, none);
        }

        @Override
        public Void visitDoWhileLoop(DoWhileLoopTree tree, Void none) {
            looped(tree.getCondition(), tree);
            return super.visitDoWhileLoop(tree, none);
        }

        @Override
        public Void visitTypeCast(TypeCastTree tree, Void none) {
            TypeMirror type = trees.getTypeMirror(new TreePath(getCurrentPath(), tree.getType()));
            due(6, "the cast in line " + line(tree) + " is to a number", type.getKind().isPrimitive());
            return super.visitTypeCast(tree, none);
        }

        @Override
        public Void visitThrow(ThrowTree tree, Void none) {
            never(6, "throw", tree);
            return super.visitThrow(tree, none);
        }

        @Override
        public Void visitTry(TryTree tree, Void none) {
            never(6, "try", tree);
            return super.visitTry(tree, none);
        }

        @Override
        public Void visitSynchronized(SynchronizedTree tree, Void none) {
            never(6, "synchronized", tree);
            return super.visitSynchronized(tree, none);
        }

        @Override
        public Void visitAssert(AssertTree tree, Void none) {
            never(6, "assert", tree);
            return super.visitAssert(tree, none);
        }

        @Override
        public Void visitLambdaExpression(LambdaExpressionTree tree, Void none) {
            never(2, "a lambda", tree);
            return super.visitLambdaExpression(tree, none);
        }

        @Override
        public Void visitMemberReference(MemberReferenceTree tree, Void none) {
            never(2, "a method reference", tree);
            return super.visitMemberReference(tree, none);
        }
    }

    /** How deep the calls go, each abstract one taken as all that implement it; one that comes back is a recursion. */
    private static final class Depths {
        private final Map<ExecutableElement, Set<ExecutableElement>> calls;
        private final Map<ExecutableElement, Integer> known = new HashMap<>();
        private final Set<ExecutableElement> open = new HashSet<>();

        Depths(Map<ExecutableElement, Set<ExecutableElement>> calls) {
            this.calls = calls;
        }

        void look() {
            for (ExecutableElement method : calls.keySet()) {
                if (method.getModifiers().contains(Modifier.PUBLIC)) {
                    int depth = depth(method);
                    due(11, method + " goes " + depth + " calls deep", depth <= DEEPEST);
                }
            }
        }

        private int depth(ExecutableElement method) {
            if (known.containsKey(method)) {
                return known.get(method);
            }
            if (!open.add(method)) {
                due(8, method + " comes back to itself", false);
                return 0;
            }
            int deepest = 0;
            for (ExecutableElement called : calls.getOrDefault(method, Set.of())) {
                for (ExecutableElement one : thatImplement(called)) {
                    deepest = Math.max(deepest, depth(one));
                }
            }
            open.remove(method);
            known.put(method, deepest + 1);
            return deepest + 1;
        }

        private List<ExecutableElement> thatImplement(ExecutableElement called) {
            if (!called.getModifiers().contains(Modifier.ABSTRACT)) {
                return List.of(called);
            }
            List<ExecutableElement> all = new ArrayList<>();
            for (ExecutableElement one : calls.keySet()) {
                TypeElement owner = (TypeElement) one.getEnclosingElement();
                boolean extending = owner.getSuperclass().toString().equals(called.getEnclosingElement().toString());
                if (extending && one.toString().equals(called.toString())) {
                    all.add(one);
                }
            }
            due(8, called + " is implemented", !all.isEmpty());
            return all;
        }
    }
}
