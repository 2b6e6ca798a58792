import com.sun.source.tree.ArrayAccessTree;
import com.sun.source.tree.AssertTree;
import com.sun.source.tree.BinaryTree;
import com.sun.source.tree.ClassTree;
import com.sun.source.tree.CompilationUnitTree;
import com.sun.source.tree.CompoundAssignmentTree;
import com.sun.source.tree.DoWhileLoopTree;
import com.sun.source.tree.EnhancedForLoopTree;
import com.sun.source.tree.ExpressionTree;
import com.sun.source.tree.ForLoopTree;
import com.sun.source.tree.LambdaExpressionTree;
import com.sun.source.tree.LiteralTree;
import com.sun.source.tree.MemberReferenceTree;
import com.sun.source.tree.MethodInvocationTree;
import com.sun.source.tree.MethodTree;
import com.sun.source.tree.NewArrayTree;
import com.sun.source.tree.NewClassTree;
import com.sun.source.tree.SwitchExpressionTree;
import com.sun.source.tree.SwitchTree;
import com.sun.source.tree.SynchronizedTree;
import com.sun.source.tree.ThrowTree;
import com.sun.source.tree.Tree;
import com.sun.source.tree.TryTree;
import com.sun.source.tree.TypeCastTree;
import com.sun.source.tree.VariableTree;
import com.sun.source.tree.WhileLoopTree;
import com.sun.source.util.JavacTask;
import com.sun.source.util.TreePath;
import com.sun.source.util.TreePathScanner;
import com.sun.source.util.Trees;
import java.nio.file.Path;
import java.util.HashSet;
import java.util.LinkedHashMap;
import java.util.LinkedHashSet;
import java.util.List;
import java.util.Map;
import java.util.Set;
import javax.lang.model.element.Element;
import javax.lang.model.element.ElementKind;
import javax.lang.model.element.ExecutableElement;
import javax.lang.model.element.Modifier;
import javax.lang.model.type.ArrayType;
import javax.lang.model.type.TypeKind;
import javax.lang.model.type.TypeMirror;
import javax.tools.JavaCompiler;
import javax.tools.StandardJavaFileManager;
import javax.tools.ToolProvider;

/** LANGUAGE.md's rules held against the class as the compiler reads it: types, calls, their depth. */
public final class LanguageTreeTest {
    private static final String LIBRARY = """
            String.length String.charAt String.isEmpty String.equals String.indexOf String.substring String.toCharArray
            System.arraycopy Arrays.copyOf Arrays.copyOfRange Arrays.fill Object.<init>
            Math.max Math.min Math.abs Math.floorDiv Math.floorMod Integer.bitCount Integer.compare Integer.max Integer.min
            """;
    private static final int DEEPEST = 8;
    private static final int LONGEST_METHOD = 60;
    private static final int MOST_PARAMETERS = 7;
    private static final int MOST_CLASSES = 12;
    private static final int MOST_FIELDS = 20;
    private static int wrong = 0;

    private LanguageTreeTest() {
    }

    private static void check(boolean holds, int rule, String what) {
        if (!holds) {
            wrong++;
            System.out.println("rule " + rule + " of LANGUAGE.md: " + what);
        }
    }

    /** Goes over the whole file, and keeps who calls whom. */
    private static final class Reader extends TreePathScanner<Void, Void> {
        final Trees trees;
        final CompilationUnitTree unit;
        final Map<String, Set<String>> calls = new LinkedHashMap<>();
        final Set<String> library = new HashSet<>(List.of(LIBRARY.trim().split("\\s+")));
        int classes = 0;
        int methods = 0;
        private String method = "";
        private String owner = "";

        Reader(Trees trees, CompilationUnitTree unit) {
            this.trees = trees;
            this.unit = unit;
        }

        private String where(Tree tree) {
            return "line " + unit.getLineMap().getLineNumber(start(tree)) + ": " + tree.toString().lines().findFirst().orElse("");
        }

        private long start(Tree tree) {
            return trees.getSourcePositions().getStartPosition(unit, tree);
        }

        private TypeMirror typeOf(Tree tree) {
            return trees.getTypeMirror(new TreePath(getCurrentPath(), tree));
        }

        private boolean isText(Tree tree) {
            return typeOf(tree).toString().equals("java.lang.String");
        }

        private boolean isOwn(TypeMirror type) {
            return type.toString().equals("WhichWill") || type.toString().startsWith("WhichWill.");
        }

        private boolean isAllowedType(TypeMirror type) {
            if (type instanceof ArrayType array) {
                TypeMirror of = array.getComponentType();
                boolean isTwo = of instanceof ArrayType inner && inner.getComponentType().getKind().isPrimitive();
                return of.getKind().isPrimitive() || isOwn(of) || isTwo;
            }
            return type.getKind().isPrimitive() || type.getKind() == TypeKind.VOID || isOwn(type)
                    || type.toString().equals("java.lang.String");
        }

        @Override
        public Void visitClass(ClassTree tree, Void none) {
            String outer = owner;
            boolean isTop = outer.isEmpty();
            Set<Modifier> flags = tree.getModifiers().getFlags();
            Tree around = getCurrentPath().getParentPath().getLeaf();
            check(isTop || around instanceof ClassTree && flags.contains(Modifier.STATIC), 2, "a static class inside: " + where(tree));
            check(!isTop || flags.contains(Modifier.PUBLIC) && flags.contains(Modifier.FINAL), 1, "public and final");
            check(isTop || !flags.contains(Modifier.PUBLIC) && !flags.contains(Modifier.PROTECTED), 1, where(tree));
            classes++;
            int fields = 0;
            for (Tree member : tree.getMembers()) {
                check(member.getKind() != Tree.Kind.BLOCK, 5, "no block that initialises: " + where(member));
                if (member instanceof VariableTree field) {
                    fields += field.getModifiers().getFlags().contains(Modifier.STATIC) ? 0 : 1;
                    checkField(field, isTop);
                }
            }
            check(fields <= MOST_FIELDS, 11, fields + " fields in " + tree.getSimpleName());
            owner = tree.getSimpleName().toString();
            super.visitClass(tree, none);
            owner = outer;
            return null;
        }

        private void checkField(VariableTree field, boolean isTop) {
            Set<Modifier> flags = field.getModifiers().getFlags();
            check(!isTop || flags.contains(Modifier.PRIVATE) || flags.contains(Modifier.PUBLIC) && flags.contains(Modifier.STATIC),
                    1, where(field));
            if (flags.contains(Modifier.STATIC)) {
                check(flags.contains(Modifier.FINAL) && field.getInitializer() != null, 5, where(field));
                check(Set.of("int", "long", "boolean", "char", "String", "int[]", "long[]", "char[]", "byte[]")
                        .contains(field.getType().toString()), 5, where(field));
            }
        }

        @Override
        public Void visitMethod(MethodTree tree, Void none) {
            methods++;
            method = owner + "." + tree.getName() + "/" + tree.getParameters().size();
            check(calls.put(method, new LinkedHashSet<>()) == null, 11, "two methods alike by name and number: " + method);
            check(tree.getParameters().size() <= MOST_PARAMETERS, 11, "parameters of " + method);
            check(tree.getThrows().isEmpty(), 6, "throws of " + method);
            long first = unit.getLineMap().getLineNumber(start(tree));
            long last = unit.getLineMap().getLineNumber(trees.getSourcePositions().getEndPosition(unit, tree));
            check(last - first < LONGEST_METHOD, 11, "lines of " + method);
            super.visitMethod(tree, none);
            method = "";
            return null;
        }

        @Override
        public Void visitVariable(VariableTree tree, Void none) {
            check(isAllowedType(trees.getTypeMirror(getCurrentPath())), 3, where(tree));
            return super.visitVariable(tree, none);
        }

        private void keepCall(Tree tree) {
            Element called = trees.getElement(getCurrentPath());
            if (!(called instanceof ExecutableElement to)) {
                check(false, 4, "a call that is not known: " + where(tree));
                return;
            }
            String name = to.getEnclosingElement().getSimpleName() + "." + to.getSimpleName();
            if (!isOwn(to.getEnclosingElement().asType())) {
                check(library.contains(name), 4, where(tree));
            }
            // What a field is made with is called by each constructor.
            String from = method.isEmpty() ? owner + ".fields" : method;
            calls.computeIfAbsent(from, f -> new LinkedHashSet<>()).add(name + "/" + to.getParameters().size());
        }

        @Override
        public Void visitMethodInvocation(MethodInvocationTree tree, Void none) {
            keepCall(tree);
            check(isAllowedType(typeOf(tree)), 3, where(tree));
            return super.visitMethodInvocation(tree, none);
        }

        @Override
        public Void visitNewClass(NewClassTree tree, Void none) {
            keepCall(tree);
            check(isOwn(typeOf(tree)), 4, where(tree));
            check(tree.getClassBody() == null, 2, where(tree));
            return super.visitNewClass(tree, none);
        }

        @Override
        public Void visitNewArray(NewArrayTree tree, Void none) {
            check(isAllowedType(typeOf(tree)), 3, where(tree));
            return super.visitNewArray(tree, none);
        }

        @Override
        public Void visitArrayAccess(ArrayAccessTree tree, Void none) {
            check(isAllowedType(typeOf(tree)), 3, where(tree));
            return super.visitArrayAccess(tree, none);
        }

        @Override
        public Void visitBinary(BinaryTree tree, Void none) {
            boolean isOfTexts = isText(tree.getLeftOperand()) || isText(tree.getRightOperand());
            check(!isOfTexts, tree.getKind() == Tree.Kind.PLUS ? 10 : 6, where(tree));
            return super.visitBinary(tree, none);
        }

        @Override
        public Void visitCompoundAssignment(CompoundAssignmentTree tree, Void none) {
            check(!isText(tree.getVariable()), 10, where(tree));
            return super.visitCompoundAssignment(tree, none);
        }

        @Override
        public Void visitTypeCast(TypeCastTree tree, Void none) {
            check(typeOf(tree).getKind().isPrimitive(), 6, where(tree));
            return super.visitTypeCast(tree, none);
        }

        @Override
        public Void visitLiteral(LiteralTree tree, Void none) {
            if (tree.getValue() instanceof String text) {
                check(text.chars().allMatch(c -> c >= 1 && c <= 127), 4, where(tree));
            }
            return super.visitLiteral(tree, none);
        }

        @Override
        public Void visitSwitch(SwitchTree tree, Void none) {
            check(!isText(tree.getExpression()), 10, where(tree));
            return super.visitSwitch(tree, none);
        }

        private void checkLoop(Tree loop, ExpressionTree condition) {
            check(condition != null && condition.toString().matches("(?s).*(<|>|!=|&&).*"), 9, where(loop));
        }

        @Override
        public Void visitForLoop(ForLoopTree tree, Void none) {
            checkLoop(tree, tree.getCondition());
            check(!tree.getUpdate().isEmpty(), 9, where(tree));
            return super.visitForLoop(tree, none);
        }

        @Override
        public Void visitWhileLoop(WhileLoopTree tree, Void none) {
            checkLoop(tree, tree.getCondition());
            return super.visitWhileLoop(tree, none);
        }

        @Override
        public Void visitDoWhileLoop(DoWhileLoopTree tree, Void none) {
            checkLoop(tree, tree.getCondition());
            return super.visitDoWhileLoop(tree, none);
        }

        @Override
        public Void visitEnhancedForLoop(EnhancedForLoopTree tree, Void none) {
            check(typeOf(tree.getExpression()).getKind() == TypeKind.ARRAY, 12, where(tree));
            return super.visitEnhancedForLoop(tree, none);
        }

        @Override
        public Void visitLambdaExpression(LambdaExpressionTree tree, Void none) {
            check(false, 2, where(tree));
            return null;
        }

        @Override
        public Void visitMemberReference(MemberReferenceTree tree, Void none) {
            check(false, 2, where(tree));
            return null;
        }

        @Override
        public Void visitThrow(ThrowTree tree, Void none) {
            check(false, 6, where(tree));
            return null;
        }

        @Override
        public Void visitTry(TryTree tree, Void none) {
            check(false, 6, where(tree));
            return null;
        }

        @Override
        public Void visitSynchronized(SynchronizedTree tree, Void none) {
            check(false, 6, where(tree));
            return null;
        }

        @Override
        public Void visitAssert(AssertTree tree, Void none) {
            check(false, 6, where(tree));
            return null;
        }

        @Override
        public Void visitSwitchExpression(SwitchExpressionTree tree, Void none) {
            check(false, 10, where(tree));
            return null;
        }

        /** How many calls stand open at once, this one told too; a call that comes to itself is no such. */
        int depthOf(String from, Set<String> open) {
            if (!open.add(from)) {
                check(false, 8, from + " calls itself");
                return 0;
            }
            int deepest = 0;
            for (String to : calls.getOrDefault(from, Set.of())) {
                deepest = Math.max(deepest, depthOf(to, open));
            }
            if (from.contains(".<init>/")) {
                String fields = from.substring(0, from.indexOf('.')) + ".fields";
                for (String to : calls.getOrDefault(fields, Set.of())) {
                    deepest = Math.max(deepest, depthOf(to, open));
                }
            }
            open.remove(from);
            return deepest + 1;
        }
    }

    private static void checkCalls(Reader reader, Element face) {
        int deepest = 0;
        for (Element member : face.getEnclosedElements()) {
            if (member instanceof ExecutableElement call && member.getModifiers().contains(Modifier.PUBLIC)) {
                String name = "WhichWill." + call.getSimpleName() + "/" + call.getParameters().size();
                int depth = reader.depthOf(name, new HashSet<>());
                check(depth <= DEEPEST, 11, name + " goes " + depth + " deep");
                deepest = Math.max(deepest, depth);
            }
        }
        System.out.println(reader.methods + " methods in " + reader.classes + " classes, at most " + deepest + " deep");
    }

    public static void main(String[] args) throws Exception {
        JavaCompiler compiler = ToolProvider.getSystemJavaCompiler();
        try (StandardJavaFileManager files = compiler.getStandardFileManager(null, null, null)) {
            JavacTask task = (JavacTask) compiler.getTask(null, files, null, List.of("-proc:none"), null,
                    files.getJavaFileObjects(Path.of("src/main/java/WhichWill.java")));
            CompilationUnitTree unit = task.parse().iterator().next();
            Element face = null;
            for (Element element : task.analyze()) {
                face = element.getKind() == ElementKind.CLASS && element.getSimpleName().contentEquals("WhichWill") ? element : face;
            }
            check(unit.getPackageName() == null && unit.getTypeDecls().size() == 1, 1, "one class without a package");
            Reader reader = new Reader(Trees.instance(task), unit);
            reader.scan(unit, null);
            check(reader.classes <= MOST_CLASSES, 11, reader.classes + " classes");
            check(reader.methods > 100 && face != null, 1, "the class is read");
            if (face != null) {
                checkCalls(reader, face);
            }
        }
        System.out.println(wrong == 0 ? "the class is as LANGUAGE.md asks" : wrong + " faults");
        if (wrong != 0) {
            System.exit(1);
        }
    }
}
