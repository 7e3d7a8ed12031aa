import com.sun.source.tree.ArrayTypeTree;
import com.sun.source.tree.BlockTree;
import com.sun.source.tree.ClassTree;
import com.sun.source.tree.CompilationUnitTree;
import com.sun.source.tree.ExpressionTree;
import com.sun.source.tree.IdentifierTree;
import com.sun.source.tree.MemberSelectTree;
import com.sun.source.tree.MethodInvocationTree;
import com.sun.source.tree.MethodTree;
import com.sun.source.tree.NewArrayTree;
import com.sun.source.tree.PrimitiveTypeTree;
import com.sun.source.tree.Tree;
import com.sun.source.tree.TypeCastTree;
import com.sun.source.tree.VariableTree;
import com.sun.source.util.JavacTask;
import com.sun.source.util.TreePath;
import com.sun.source.util.TreePathScanner;
import com.sun.source.util.TreeScanner;
import com.sun.source.util.Trees;
import java.io.IOException;
import java.nio.file.Path;
import java.util.EnumSet;
import java.util.List;
import java.util.Map;
import java.util.Set;
import java.util.TreeMap;
import java.util.TreeSet;
import javax.lang.model.element.Modifier;
import javax.lang.model.type.TypeKind;
import javax.tools.JavaCompiler;
import javax.tools.StandardJavaFileManager;
import javax.tools.ToolProvider;

/** The rules of LANGUAGE.md that can be seen in the syntax tree of the class. */
public final class ImageChainLanguage {
    private static final Path SOURCE = Path.of("src/main/java/ImageChain.java");
    private static final int MOST_PARAMETERS = 7;
    private static final int MOST_LINES = 60;
    private static final int MOST_DEEP = 6;
    private static final int MOST_FIELDS = 40;

    /** What rules 2, 3 and 6 leave no room for, whatever it stands in. */
    private static final Set<Tree.Kind> FORBIDDEN = EnumSet.of(
        Tree.Kind.IMPORT, Tree.Kind.PACKAGE, Tree.Kind.INTERFACE, Tree.Kind.ENUM, Tree.Kind.RECORD,
        Tree.Kind.ANNOTATION_TYPE, Tree.Kind.ANNOTATION, Tree.Kind.THROW, Tree.Kind.TRY, Tree.Kind.CATCH,
        Tree.Kind.SYNCHRONIZED, Tree.Kind.ASSERT, Tree.Kind.INSTANCE_OF, Tree.Kind.LAMBDA_EXPRESSION,
        Tree.Kind.MEMBER_REFERENCE, Tree.Kind.NEW_CLASS, Tree.Kind.NULL_LITERAL, Tree.Kind.STRING_LITERAL,
        Tree.Kind.FLOAT_LITERAL, Tree.Kind.DOUBLE_LITERAL, Tree.Kind.PARAMETERIZED_TYPE);

    private static int wrong = 0;

    private static void fault(String rule, String what) {
        wrong++;
        System.out.println("rule " + rule + ": " + what);
    }

    private static boolean isNumberType(Tree type) {
        if (!(type instanceof PrimitiveTypeTree)) {
            return false;
        }
        TypeKind kind = ((PrimitiveTypeTree) type).getPrimitiveTypeKind();
        return kind != TypeKind.FLOAT && kind != TypeKind.DOUBLE && kind != TypeKind.VOID;
    }

    private static boolean isArrayOfNumbers(Tree type) {
        return type instanceof ArrayTypeTree && isNumberType(((ArrayTypeTree) type).getType());
    }

    private static final class Rules extends TreePathScanner<Void, Void> {
        private final Trees trees;
        private final CompilationUnitTree unit;
        private final Map<String, Set<String>> calls = new TreeMap<>();
        private final Set<String> constants = new TreeSet<>();
        private String method = null;
        private int classes = 0;
        private int fields = 0;

        Rules(Trees trees, CompilationUnitTree unit) {
            this.trees = trees;
            this.unit = unit;
        }

        private long line(long position) {
            return unit.getLineMap().getLineNumber(position);
        }

        private String place(Tree tree) {
            return "line " + line(trees.getSourcePositions().getStartPosition(unit, tree)) + ": " + tree;
        }

        @Override
        public Void scan(Tree tree, Void nothing) {
            if (tree != null && FORBIDDEN.contains(tree.getKind())) {
                fault("1, 2, 3 or 6", place(tree));
            }
            return super.scan(tree, nothing);
        }

        @Override
        public Void visitClass(ClassTree tree, Void nothing) {
            classes++;
            if (classes > 1 || tree.getExtendsClause() != null || !tree.getImplementsClause().isEmpty()) {
                fault("1", "not one plain class");
            }
            for (Tree member : tree.getMembers()) {
                if (member instanceof BlockTree) {
                    fault("4 and 5", "an initialiser block, " + place(member));
                }
            }
            return super.visitClass(tree, nothing);
        }

        @Override
        public Void visitVariable(VariableTree tree, Void nothing) {
            if (!isNumberType(tree.getType()) && !isArrayOfNumbers(tree.getType())) {
                fault("2", place(tree));
            }
            if (getCurrentPath().getParentPath().getLeaf() instanceof ClassTree) {
                field(tree);
            }
            return super.visitVariable(tree, nothing);
        }

        private void field(VariableTree tree) {
            Set<Modifier> modifiers = tree.getModifiers().getFlags();
            if (!modifiers.contains(Modifier.STATIC)) {
                fields++;
                if (isArrayOfNumbers(tree.getType())) {
                    arrayField(tree, modifiers);
                }
                return;
            }
            constants.add(tree.getName().toString());
            String type = tree.getType().toString();
            boolean isConstant = modifiers.contains(Modifier.FINAL) && isConstant(tree.getInitializer());
            if (!isConstant || !(type.equals("int") || type.equals("long"))) {
                fault("5", place(tree));
            }
        }

        /** The form of rule 4 that it calls the easiest; the class needs no other. */
        private void arrayField(VariableTree tree, Set<Modifier> modifiers) {
            boolean madeHere = tree.getInitializer() instanceof NewArrayTree;
            if (!madeHere || !modifiers.contains(Modifier.FINAL) || !modifiers.contains(Modifier.PRIVATE)) {
                fault("4", "not a private final array made in its field's initialiser, " + place(tree));
            }
        }

        private boolean isConstant(ExpressionTree tree) {
            if (tree == null) {
                return false;
            }
            boolean[] onlyConstants = {true};
            new TreeScanner<Void, Void>() {
                @Override
                public Void visitIdentifier(IdentifierTree name, Void nothing) {
                    onlyConstants[0] &= constants.contains(name.getName().toString());
                    return null;
                }
            }.scan(tree, null);
            return onlyConstants[0];
        }

        @Override
        public Void visitNewArray(NewArrayTree tree, Void nothing) {
            TreePath around = getCurrentPath().getParentPath();
            boolean inField = around.getLeaf() instanceof VariableTree
                && around.getParentPath().getLeaf() instanceof ClassTree;
            boolean oneLength = tree.getInitializers() == null && tree.getDimensions().size() == 1;
            if (!inField || !oneLength || !isConstant(tree.getDimensions().get(0))) {
                fault("4", place(tree));
            }
            return super.visitNewArray(tree, nothing);
        }

        @Override
        public Void visitMethod(MethodTree tree, Void nothing) {
            method = tree.getName().toString();
            calls.putIfAbsent(method, new TreeSet<>());
            Tree type = tree.getReturnType();
            if (type != null && !isNumberType(type) && !type.toString().equals("void")) {
                fault("2 and 4", method + " answers " + type);
            }
            if (tree.getParameters().size() > MOST_PARAMETERS || !tree.getThrows().isEmpty()) {
                fault("6 and 10", "the head of " + method);
            }
            long first = line(trees.getSourcePositions().getStartPosition(unit, tree));
            long last = line(trees.getSourcePositions().getEndPosition(unit, tree));
            if (last - first + 1 > MOST_LINES) {
                fault("10", method + " has " + (last - first + 1) + " lines");
            }
            super.visitMethod(tree, nothing);
            method = null;
            return null;
        }

        @Override
        public Void visitMethodInvocation(MethodInvocationTree tree, Void nothing) {
            String called = tree.getMethodSelect().toString().replaceFirst("^this\\.", "");
            if (method == null) {
                fault("4", "a call outside a method, " + place(tree));
            } else {
                calls.get(method).add(called);
            }
            for (ExpressionTree argument : tree.getArguments()) {
                if (holdsCall(argument)) {
                    fault("10", "a call inside the arguments of another, " + place(tree));
                }
            }
            return super.visitMethodInvocation(tree, nothing);
        }

        private boolean holdsCall(ExpressionTree argument) {
            boolean[] found = {false};
            new TreeScanner<Void, Void>() {
                @Override
                public Void visitMethodInvocation(MethodInvocationTree tree, Void nothing) {
                    found[0] = true;
                    return null;
                }
            }.scan(argument, null);
            return found[0];
        }

        @Override
        public Void visitTypeCast(TypeCastTree tree, Void nothing) {
            if (!isNumberType(tree.getType())) {
                fault("6", place(tree));
            }
            return super.visitTypeCast(tree, nothing);
        }

        @Override
        public Void visitMemberSelect(MemberSelectTree tree, Void nothing) {
            boolean ofArray = tree.getIdentifier().contentEquals("length");
            if (!ofArray && !tree.getExpression().toString().equals("this")) {
                fault("3", place(tree));
            }
            return super.visitMemberSelect(tree, nothing);
        }

        /** Takes away, layer by layer, the methods that call none that is left: what stays calls itself. */
        private void callsHaveNoCircle() {
            Map<String, Set<String>> left = new TreeMap<>();
            calls.forEach((name, called) -> left.put(name, new TreeSet<>(called)));
            left.values().forEach(called -> called.remove("super"));
            int deep = 0;
            boolean going = true;
            while (going) {
                Set<String> layer = new TreeSet<>();
                left.forEach((name, called) -> {
                    if (called.isEmpty()) {
                        layer.add(name);
                    }
                });
                left.keySet().removeAll(layer);
                left.values().forEach(called -> called.removeAll(layer));
                going = !layer.isEmpty();
                deep += going ? 1 : 0;
            }
            if (!left.isEmpty()) {
                fault("3 and 8", "a call of itself, or of what the class does not have, in " + left);
            }
            if (deep > MOST_DEEP) {
                fault("10", "calls go " + deep + " deep");
            }
        }

        private void wholeClass() {
            callsHaveNoCircle();
            if (fields > MOST_FIELDS) {
                fault("10", fields + " fields");
            }
            if (classes != 1 || calls.size() < 22 || fields == 0) {
                fault("1", "the test itself did not see the class");
            }
        }
    }

    public static void main(String[] args) throws IOException {
        JavaCompiler compiler = ToolProvider.getSystemJavaCompiler();
        try (StandardJavaFileManager files = compiler.getStandardFileManager(null, null, null)) {
            JavacTask task = (JavacTask) compiler.getTask(
                null, files, null, List.of("--release", "17"), null, files.getJavaFileObjects(SOURCE));
            for (CompilationUnitTree unit : task.parse()) {
                Rules rules = new Rules(Trees.instance(task), unit);
                rules.scan(unit, null);
                rules.wholeClass();
            }
        }
        System.out.println(wrong == 0 ? "the rules are kept" : wrong + " faults");
        if (wrong != 0) {
            System.exit(1);
        }
    }
}
