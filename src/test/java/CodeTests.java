import com.sun.source.tree.ArrayAccessTree;
import com.sun.source.tree.AssignmentTree;
import com.sun.source.tree.BinaryTree;
import com.sun.source.tree.BlockTree;
import com.sun.source.tree.ClassTree;
import com.sun.source.tree.CompilationUnitTree;
import com.sun.source.tree.CompoundAssignmentTree;
import com.sun.source.tree.ExpressionTree;
import com.sun.source.tree.IdentifierTree;
import com.sun.source.tree.ImportTree;
import com.sun.source.tree.MemberSelectTree;
import com.sun.source.tree.MethodInvocationTree;
import com.sun.source.tree.MethodTree;
import com.sun.source.tree.NewArrayTree;
import com.sun.source.tree.NewClassTree;
import com.sun.source.tree.Tree;
import com.sun.source.tree.TypeCastTree;
import com.sun.source.tree.UnaryTree;
import com.sun.source.tree.VariableTree;
import com.sun.source.util.JavacTask;
import com.sun.source.util.TreePath;
import com.sun.source.util.TreePathScanner;
import com.sun.source.util.Trees;
import java.io.File;
import java.nio.file.Files;
import java.nio.file.Path;
import java.util.EnumSet;
import java.util.HashMap;
import java.util.LinkedHashSet;
import java.util.List;
import java.util.Map;
import java.util.Set;
import javax.lang.model.element.Element;
import javax.lang.model.element.ElementKind;
import javax.lang.model.element.ExecutableElement;
import javax.lang.model.element.Modifier;
import javax.lang.model.element.TypeElement;
import javax.lang.model.element.VariableElement;
import javax.lang.model.type.ArrayType;
import javax.lang.model.type.TypeKind;
import javax.lang.model.type.TypeMirror;
import javax.tools.JavaCompiler;
import javax.tools.StandardJavaFileManager;
import javax.tools.ToolProvider;

/** The rules of ../shared/LANGUAGE.md that can be seen in the code, which the compiler itself parses here. */
public final class CodeTests {
    private static final String FILE = "src/main/java/NameChart.java";
    private static final int MOST_LINES = 60, MOST_PARAMETERS = 7, MOST_DEEP = 8, MOST_CLASSES = 12, MOST_FIELDS = 20;
    private static final Set<Tree.Kind> FORBIDDEN = EnumSet.of(Tree.Kind.THROW, Tree.Kind.TRY, Tree.Kind.CATCH,
        Tree.Kind.SYNCHRONIZED, Tree.Kind.ASSERT, Tree.Kind.LAMBDA_EXPRESSION, Tree.Kind.MEMBER_REFERENCE);
    private static final Set<String> NOT_DEFINED = Set.of("equals", "hashCode", "toString", "finalize", "clone");
    private static final Set<String> ARRAY_HELP = Set.of("fill", "copyOf", "copyOfRange");
    private static final Set<TypeKind> STATIC_ROWS = EnumSet.of(TypeKind.INT, TypeKind.LONG, TypeKind.CHAR, TypeKind.BYTE);
    private static final Set<TypeKind> STATIC_NUMBERS =
        EnumSet.of(TypeKind.INT, TypeKind.LONG, TypeKind.CHAR, TypeKind.BOOLEAN);

    private static int wrong = 0;

    private static void fault(boolean bad, String what) {
        if (bad) {
            wrong++;
            System.out.println(what);
        }
    }

    public static void main(String[] args) throws Exception {
        String code = Files.readString(Path.of(FILE));
        fault(!code.chars().allMatch(c -> c == '\n' || c >= ' ' && c < 127), "characters that are no plain ones");
        JavaCompiler compiler = ToolProvider.getSystemJavaCompiler();
        fault(compiler == null, "this java has no compiler to read the code with");
        if (compiler != null) {
            read(compiler);
        }
        System.out.println(wrong == 0 ? "the code keeps the rules" : wrong + " places break the rules");
        if (wrong != 0) {
            System.exit(1);
        }
    }

    private static void read(JavaCompiler compiler) throws Exception {
        try (StandardJavaFileManager files = compiler.getStandardFileManager(null, null, null)) {
            JavacTask task = (JavacTask) compiler.getTask(null, files, null, List.of("-proc:none"), null,
                files.getJavaFileObjects(new File(FILE)));
            Iterable<? extends CompilationUnitTree> units = task.parse();
            task.analyze();
            for (CompilationUnitTree unit : units) {
                Reader reader = new Reader(Trees.instance(task), unit);
                reader.scan(unit, null);
                reader.calls.judge();
                fault(reader.classes > 1 + MOST_CLASSES, "rule 11: " + reader.classes + " classes");
                fault(reader.methods < 50, "only " + reader.methods + " methods were read");
            }
        }
    }

    /** Who calls whom, among the methods of the file. */
    private static final class Calls {
        private final Map<Element, Set<Element>> called = new HashMap<>();
        private final Map<Element, Integer> depth = new HashMap<>();
        private final Set<Element> under = new LinkedHashSet<>();

        void add(Element from, Element to) {
            called.computeIfAbsent(from, e -> new LinkedHashSet<>()).add(to);
        }

        void judge() {
            for (Element method : called.keySet()) {
                int deep = depthOf(method);
                fault(deep > MOST_DEEP, "rule 11: " + deep + " calls deep: " + method);
            }
        }

        /** A method that calls itself is no deeper by that; a longer ring of calls is none that this class needs. */
        private int depthOf(Element method) {
            Integer known = depth.get(method);
            if (known != null) {
                return known;
            }
            fault(!under.add(method), "rule 8: a ring of calls " + under);
            int deepest = 0;
            for (Element next : called.getOrDefault(method, Set.of())) {
                if (next == method) {
                    fault(!method.getModifiers().contains(Modifier.PRIVATE), "rule 8: recursion in " + method);
                } else if (!under.contains(next)) {
                    deepest = Math.max(deepest, depthOf(next));
                } else {
                    fault(true, "rule 8: a ring of calls " + under);
                }
            }
            under.remove(method);
            depth.put(method, deepest + 1);
            return deepest + 1;
        }
    }

    /** Goes through the whole tree of the file. */
    private static final class Reader extends TreePathScanner<Void, Void> {
        final Calls calls = new Calls();
        int classes;
        int methods;
        private final Trees trees;
        private final CompilationUnitTree unit;

        Reader(Trees trees, CompilationUnitTree unit) {
            this.trees = trees;
            this.unit = unit;
            fault(unit.getPackageName() != null, "a package line");
            fault(unit.getTypeDecls().size() != 1, "more than one class beside another");
        }

        private long lineOf(Tree tree) {
            return unit.getLineMap().getLineNumber(trees.getSourcePositions().getStartPosition(unit, tree));
        }

        private long lastLineOf(Tree tree) {
            return unit.getLineMap().getLineNumber(trees.getSourcePositions().getEndPosition(unit, tree));
        }

        private void faultAt(boolean bad, String what, Tree tree) {
            fault(bad, "line " + (bad ? lineOf(tree) : 0) + ", " + what + ": " + (bad ? tree.toString().trim() : ""));
        }

        private Element elementOf(Tree tree) {
            return trees.getElement(new TreePath(getCurrentPath(), tree));
        }

        /** Whether something stands in the class itself, and not in the library. */
        private static boolean isOwn(Element e) {
            Element at = e;
            while (at != null && at.getEnclosingElement() != null
                && at.getEnclosingElement().getKind() != ElementKind.PACKAGE) {
                at = at.getEnclosingElement();
            }
            return at != null && at.getSimpleName().contentEquals("NameChart");
        }

        private MethodTree methodAround() {
            for (Tree tree : getCurrentPath()) {
                if (tree instanceof MethodTree method) {
                    return method;
                }
                if (tree instanceof ClassTree) {
                    return null;
                }
            }
            return null;
        }

        private Element caller() {
            for (TreePath path = getCurrentPath(); path != null; path = path.getParentPath()) {
                if (path.getLeaf() instanceof MethodTree || path.getLeaf() instanceof ClassTree) {
                    return trees.getElement(path);
                }
            }
            return null;
        }

        @Override
        public Void scan(Tree tree, Void v) {
            faultAt(tree != null && FORBIDDEN.contains(tree.getKind()), "rules 2 and 6", tree);
            return super.scan(tree, v);
        }

        @Override
        public Void visitImport(ImportTree tree, Void v) {
            String name = tree.getQualifiedIdentifier().toString();
            faultAt(tree.isStatic() || !Set.of("java.util.Arrays", "java.util.ArrayList", "java.util.List").contains(name),
                "rule 4", tree);
            return null;
        }

        @Override
        public Void visitClass(ClassTree tree, Void v) {
            classes++;
            Element self = trees.getElement(getCurrentPath());
            boolean outermost = getCurrentPath().getParentPath().getLeaf() instanceof CompilationUnitTree;
            boolean inClass = getCurrentPath().getParentPath().getLeaf() instanceof ClassTree;
            faultAt(!outermost && !inClass, "rule 2, a local class", tree);
            faultAt(inClass && !self.getModifiers().contains(Modifier.STATIC), "rule 2, an inner class", tree);
            int fields = 0;
            for (Tree member : tree.getMembers()) {
                faultAt(member instanceof BlockTree, "rule 5, an initialiser block", member);
                if (member instanceof VariableTree field) {
                    fields += elementOf(field).getModifiers().contains(Modifier.STATIC) ? 0 : 1;
                }
            }
            faultAt(fields > MOST_FIELDS, "rule 11, fields", tree);
            return super.visitClass(tree, v);
        }

        @Override
        public Void visitMethod(MethodTree tree, Void v) {
            methods++;
            long lines = Math.max(1, lastLineOf(tree) - lineOf(tree) + 1);
            faultAt(lines > MOST_LINES, "rule 11, a method of " + lines + " lines", tree);
            faultAt(tree.getParameters().size() > MOST_PARAMETERS, "rule 11, parameters", tree);
            TypeMirror answer = ((ExecutableElement) trees.getElement(getCurrentPath())).getReturnType();
            faultAt(answer.getKind() != TypeKind.VOID && !isAllowed(answer), "rule 3", tree);
            faultAt(NOT_DEFINED.contains(tree.getName().toString()), "rule 6", tree);
            faultAt(!tree.getThrows().isEmpty(), "rule 6", tree);
            return super.visitMethod(tree, v);
        }

        @Override
        public Void visitVariable(VariableTree tree, Void v) {
            Element self = trees.getElement(getCurrentPath());
            faultAt(!isAllowed(self.asType()), "rule 3", tree);
            if (self.getKind() == ElementKind.FIELD && self.getModifiers().contains(Modifier.STATIC)) {
                faultAt(!self.getModifiers().contains(Modifier.FINAL), "rule 5", tree);
                faultAt(!isStaticType(self.asType()), "rule 5", tree);
            }
            return super.visitVariable(tree, v);
        }

        private static boolean isAllowed(TypeMirror type) {
            if (type instanceof ArrayType row) {
                TypeMirror each = row.getComponentType();
                boolean rowOfRows = each instanceof ArrayType inner && inner.getComponentType().getKind().isPrimitive();
                return rowOfRows || !(each instanceof ArrayType) && isAllowed(each);
            }
            // Doubles and floats have rules of their own, and the class needs none.
            if (type.getKind().isPrimitive()) {
                return type.getKind() != TypeKind.DOUBLE && type.getKind() != TypeKind.FLOAT;
            }
            return type.toString().startsWith("NameChart");
        }

        private static boolean isStaticType(TypeMirror type) {
            if (type instanceof ArrayType row) {
                return STATIC_ROWS.contains(row.getComponentType().getKind());
            }
            return STATIC_NUMBERS.contains(type.getKind());
        }

        @Override
        public Void visitMethodInvocation(MethodInvocationTree tree, Void v) {
            Element called = trees.getElement(getCurrentPath());
            if (isOwn(called)) {
                calls.add(caller(), called);
            } else if (!called.getSimpleName().contentEquals("<init>")) {
                faultAt(!isInLibrary((ExecutableElement) called), "rule 4", tree);
            }
            return super.visitMethodInvocation(tree, v);
        }

        private static boolean isInLibrary(ExecutableElement called) {
            String name = called.getSimpleName().toString();
            switch (((TypeElement) called.getEnclosingElement()).getQualifiedName().toString()) {
                case "java.lang.Math": case "java.lang.Integer": case "java.lang.Long":
                    return called.getModifiers().contains(Modifier.STATIC) && !name.endsWith("Exact")
                        && !name.equals("random") && called.getReturnType().getKind().isPrimitive();
                case "java.lang.System": return name.equals("arraycopy");
                case "java.util.Arrays": return ARRAY_HELP.contains(name);
                default: return false;
            }
        }

        @Override
        public Void visitMemberSelect(MemberSelectTree tree, Void v) {
            Element self = trees.getElement(getCurrentPath());
            boolean field = self != null && self.getKind() == ElementKind.FIELD;
            faultAt(field && !isOwn(self) && !tree.getIdentifier().contentEquals("length"), "rule 4, a field", tree);
            return super.visitMemberSelect(tree, v);
        }

        @Override
        public Void visitNewClass(NewClassTree tree, Void v) {
            Element made = trees.getElement(getCurrentPath());
            faultAt(tree.getClassBody() != null, "rule 2, a class without a name", tree);
            faultAt(!isOwn(made), "rule 4", tree);
            faultAt(!isWhileMaking(), "rule 12, an object that a call makes", tree);
            calls.add(caller(), made);
            return super.visitNewClass(tree, v);
        }

        @Override
        public Void visitNewArray(NewArrayTree tree, Void v) {
            faultAt(!isWhileMaking(), "rule 12, a row that a call makes", tree);
            for (ExpressionTree length : tree.getDimensions()) {
                faultAt(!isConstant(length), "rule 7, a length", tree);
            }
            return super.visitNewArray(tree, v);
        }

        /** Objects are made by constructors and beside fields alone, so that no call costs room. */
        private boolean isWhileMaking() {
            MethodTree method = methodAround();
            return method == null || method.getName().contentEquals("<init>");
        }

        @Override
        public Void visitBinary(BinaryTree tree, Void v) {
            boolean divides = tree.getKind() == Tree.Kind.DIVIDE || tree.getKind() == Tree.Kind.REMAINDER;
            faultAt(divides && !isConstant(tree.getRightOperand()), "rule 7, a divisor", tree);
            return super.visitBinary(tree, v);
        }

        @Override
        public Void visitCompoundAssignment(CompoundAssignmentTree tree, Void v) {
            boolean divides = tree.getKind() == Tree.Kind.DIVIDE_ASSIGNMENT
                || tree.getKind() == Tree.Kind.REMAINDER_ASSIGNMENT;
            faultAt(divides && !isConstant(tree.getExpression()), "rule 7, a divisor", tree);
            faultAt(isStaticRow(tree.getVariable()), "rule 5, a row that is changed", tree);
            return super.visitCompoundAssignment(tree, v);
        }

        @Override
        public Void visitAssignment(AssignmentTree tree, Void v) {
            faultAt(isStaticRow(tree.getVariable()), "rule 5, a row that is changed", tree);
            return super.visitAssignment(tree, v);
        }

        @Override
        public Void visitUnary(UnaryTree tree, Void v) {
            boolean steps = tree.getKind() == Tree.Kind.PREFIX_INCREMENT || tree.getKind() == Tree.Kind.PREFIX_DECREMENT
                || tree.getKind() == Tree.Kind.POSTFIX_INCREMENT || tree.getKind() == Tree.Kind.POSTFIX_DECREMENT;
            faultAt(steps && isStaticRow(tree.getExpression()), "rule 5, a row that is changed", tree);
            return super.visitUnary(tree, v);
        }

        private boolean isStaticRow(ExpressionTree tree) {
            if (!(tree instanceof ArrayAccessTree access) || !(access.getExpression() instanceof IdentifierTree row)) {
                return false;
            }
            TreePath path = new TreePath(new TreePath(getCurrentPath(), access), row);
            return trees.getElement(path).getModifiers().contains(Modifier.STATIC);
        }

        /** A number above 0 that is written out or named, or a product of such. */
        private boolean isConstant(ExpressionTree tree) {
            if (tree instanceof BinaryTree product && tree.getKind() == Tree.Kind.MULTIPLY) {
                return isConstant(product.getLeftOperand()) && isConstant(product.getRightOperand());
            }
            if (tree instanceof IdentifierTree name) {
                Element constant = elementOf(name);
                return constant instanceof VariableElement variable
                    && variable.getConstantValue() instanceof Integer value && value > 0;
            }
            return tree.getKind() == Tree.Kind.INT_LITERAL && !tree.toString().equals("0");
        }

        @Override
        public Void visitTypeCast(TypeCastTree tree, Void v) {
            TypeMirror to = trees.getTypeMirror(new TreePath(getCurrentPath(), tree.getType()));
            faultAt(!to.getKind().isPrimitive(), "rule 6, a cast", tree);
            return super.visitTypeCast(tree, v);
        }
    }
}
