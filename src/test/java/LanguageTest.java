import com.sun.source.tree.*;
import com.sun.source.util.JavacTask;
import com.sun.source.util.SourcePositions;
import com.sun.source.util.TreePath;
import com.sun.source.util.TreePathScanner;
import com.sun.source.util.Trees;
import java.io.IOException;
import java.nio.file.Path;
import java.util.HashMap;
import java.util.HashSet;
import java.util.Map;
import java.util.Set;
import java.util.TreeSet;
import javax.lang.model.element.Modifier;
import javax.lang.model.type.TypeKind;
import javax.tools.JavaCompiler;
import javax.tools.StandardJavaFileManager;
import javax.tools.ToolProvider;

/**
 * The rules of LANGUAGE.md, seen on the program's syntax tree. Some are held more
 * strictly than they are written where that is simpler to see: arrays stand in
 * final fields alone, and every loop is a 'for' that counts up to a bound.
 */
public final class LanguageTest {
    private static final String PROGRAM = "src/main/java/LineageWorlds.java";
    private static final int MOST_PARAMETERS = 7;
    private static final int MOST_LINES = 60;
    private static final int MOST_DEPTH = 6;
    private static final int MOST_FIELDS = 40;

    private static int wrong = 0;

    private static void rule(int number, boolean kept, Object what) {
        if (!kept) {
            wrong++;
            System.out.println("rule " + number + " is broken: " + String.valueOf(what).strip());
        }
    }

    /** The names that the class declares, found before the code is looked at. */
    private static final class Names {
        final Set<String> publicMethods = new TreeSet<>();
        final Set<String> privateMethods = new TreeSet<>();
        final Set<String> constants = new TreeSet<>();
        final Set<String> arrays = new TreeSet<>();
        int fields = 0;

        Names(ClassTree type) {
            for (Tree member : type.getMembers()) {
                if (member instanceof MethodTree m) {
                    boolean hidden = m.getModifiers().getFlags().contains(Modifier.PRIVATE);
                    (hidden ? privateMethods : publicMethods).add(m.getName().toString());
                } else if (member instanceof VariableTree v) {
                    addField(v);
                }
            }
        }

        private void addField(VariableTree v) {
            String name = v.getName().toString();
            if (v.getModifiers().getFlags().contains(Modifier.STATIC)) {
                constants.add(name);
            } else {
                fields++;
                if (v.getType() instanceof ArrayTypeTree) {
                    arrays.add(name);
                }
            }
        }
    }

    private static final class Rules extends TreePathScanner<Void, Void> {
        final CompilationUnitTree unit;
        final SourcePositions positions;
        final Names names;
        final Map<String, Set<String>> calls = new HashMap<>();
        String method = "";

        Rules(CompilationUnitTree unit, SourcePositions positions, Names names) {
            this.unit = unit;
            this.positions = positions;
            this.names = names;
        }

        private boolean isInside(Class<? extends Tree> kind) {
            for (TreePath p = getCurrentPath().getParentPath(); p != null; p = p.getParentPath()) {
                if (kind.isInstance(p.getLeaf())) return true;
            }
            return false;
        }

        private Tree parent() {
            return getCurrentPath().getParentPath().getLeaf();
        }

        @Override public Void scan(Tree tree, Void none) {
            if (tree != null) kindOf(tree);
            return super.scan(tree, none);
        }

        private void kindOf(Tree tree) {
            switch (tree.getKind()) {
                case PACKAGE, PARAMETERIZED_TYPE, ANNOTATION, UNION_TYPE -> rule(1, false, tree);
                case INTERFACE, ENUM, RECORD, ANNOTATION_TYPE -> rule(1, false, tree);
                case FLOAT_LITERAL, DOUBLE_LITERAL, STRING_LITERAL -> rule(2, false, tree);
                case IMPORT -> rule(3, false, tree);
                case NULL_LITERAL, NEW_CLASS -> rule(4, false, tree);
                case THROW, TRY, CATCH, SYNCHRONIZED, ASSERT, INSTANCE_OF -> rule(6, false, tree);
                case LAMBDA_EXPRESSION, MEMBER_REFERENCE -> rule(6, false, tree);
                case WHILE_LOOP, DO_WHILE_LOOP, ENHANCED_FOR_LOOP -> rule(8, false, tree);
                default -> { }
            }
        }

        @Override public Void visitClass(ClassTree c, Void none) {
            rule(1, parent() == unit && c.getModifiers().getFlags().equals(Set.of(Modifier.PUBLIC, Modifier.FINAL)),
                    "class " + c.getSimpleName());
            for (Tree member : c.getMembers()) {
                if (member instanceof BlockTree block) rule(5, !block.isStatic(), block);
            }
            return super.visitClass(c, none);
        }

        @Override public Void visitVariable(VariableTree v, Void none) {
            boolean isArray = v.getType() instanceof ArrayTypeTree;
            boolean isField = parent() instanceof ClassTree;
            Set<Modifier> flags = v.getModifiers().getFlags();
            rule(2, isArray || v.getType() instanceof PrimitiveTypeTree, v);
            rule(4, !isArray || isField && flags.contains(Modifier.FINAL), v);
            if (isField && flags.contains(Modifier.STATIC)) {
                String type = v.getType().toString();
                rule(5, flags.contains(Modifier.FINAL) && (type.equals("int") || type.equals("long")), v);
            }
            return super.visitVariable(v, none);
        }

        @Override public Void visitPrimitiveType(PrimitiveTypeTree t, Void none) {
            TypeKind kind = t.getPrimitiveTypeKind();
            rule(2, kind != TypeKind.FLOAT && kind != TypeKind.DOUBLE, parent());
            return super.visitPrimitiveType(t, none);
        }

        @Override public Void visitArrayType(ArrayTypeTree t, Void none) {
            rule(2, t.getType() instanceof PrimitiveTypeTree, t);
            return super.visitArrayType(t, none);
        }

        @Override public Void visitNewArray(NewArrayTree a, Void none) {
            rule(4, parent() instanceof VariableTree && !isInside(MethodTree.class) && !isInside(BlockTree.class), a);
            boolean hasLength = a.getInitializers() == null && a.getDimensions().size() == 1;
            rule(4, hasLength && isConstant(a.getDimensions().get(0)), a);
            return super.visitNewArray(a, none);
        }

        private boolean isConstant(ExpressionTree length) {
            return length.getKind() == Tree.Kind.INT_LITERAL || names.constants.contains(length.toString());
        }

        @Override public Void visitIdentifier(IdentifierTree i, Void none) {
            if (names.arrays.contains(i.getName().toString())) {
                rule(4, parent() instanceof ArrayAccessTree access && access.getExpression() == i, parent());
            }
            return super.visitIdentifier(i, none);
        }

        @Override public Void visitMemberSelect(MemberSelectTree s, Void none) {
            rule(3, false, s);
            return super.visitMemberSelect(s, none);
        }

        @Override public Void visitTypeCast(TypeCastTree c, Void none) {
            rule(6, c.getType() instanceof PrimitiveTypeTree, c);
            return super.visitTypeCast(c, none);
        }

        @Override public Void visitMethod(MethodTree m, Void none) {
            method = m.getName().toString();
            calls.putIfAbsent(method, new HashSet<>());
            rule(2, m.getReturnType() == null || m.getReturnType() instanceof PrimitiveTypeTree, m);
            rule(10, m.getParameters().size() <= MOST_PARAMETERS, m);
            long first = unit.getLineMap().getLineNumber(positions.getStartPosition(unit, m));
            long last = unit.getLineMap().getLineNumber(positions.getEndPosition(unit, m));
            rule(10, last - first < MOST_LINES, method + " has " + (last - first + 1) + " lines");
            return super.visitMethod(m, none);
        }

        @Override public Void visitMethodInvocation(MethodInvocationTree call, Void none) {
            String name = call.getMethodSelect().toString();
            // javac writes the call of the superclass's constructor into every constructor.
            if (!name.equals("super")) {
                rule(3, names.privateMethods.contains(name) || names.publicMethods.contains(name), call);
                calls.get(method).add(name);
            }
            for (ExpressionTree argument : call.getArguments()) {
                rule(10, !argument.toString().matches("(?s).*\\w\\s*\\(.*"), call);
            }
            return super.visitMethodInvocation(call, none);
        }

        @Override public Void visitForLoop(ForLoopTree loop, Void none) {
            rule(8, counts(loop), loop);
            return super.visitForLoop(loop, none);
        }

        private static boolean counts(ForLoopTree loop) {
            if (loop.getInitializer().size() != 1 || loop.getUpdate().size() != 1) return false;
            if (!(loop.getInitializer().get(0) instanceof VariableTree counter)) return false;
            if (!(loop.getCondition() instanceof BinaryTree bound)) return false;
            String name = counter.getName().toString();
            String changes = "(?s).*\\b" + name + "\\s*(=[^=]|\\+\\+|--|[-+*/%&|^]=|<<=|>>=|>>>=).*|(?s).*(\\+\\+|--)" + name + "\\b.*";
            return bound.getKind() == Tree.Kind.LESS_THAN
                    && bound.getLeftOperand().toString().equals(name)
                    && loop.getUpdate().get(0).toString().equals(name + "++;")
                    && !loop.getStatement().toString().matches(changes);
        }
    }

    /** How many methods deep the calls from this one go; the path is what led here. */
    private static int depth(String method, Map<String, Set<String>> calls, Set<String> path) {
        if (!path.add(method)) {
            rule(8, false, "recursion through " + path);
            return 0;
        }
        int deepest = 0;
        for (String called : calls.getOrDefault(method, Set.of())) {
            deepest = Math.max(deepest, depth(called, calls, path));
        }
        path.remove(method);
        return deepest + 1;
    }

    private static void check(CompilationUnitTree unit, SourcePositions positions) {
        rule(1, unit.getTypeDecls().size() == 1, "types: " + unit.getTypeDecls().size());
        Names names = new Names((ClassTree) unit.getTypeDecls().get(0));
        Set<String> both = new TreeSet<>(names.privateMethods);
        both.retainAll(names.publicMethods);
        rule(1, both.isEmpty(), "private methods with a public name: " + both);
        rule(10, names.fields <= MOST_FIELDS, names.fields + " fields");
        Rules rules = new Rules(unit, positions, names);
        rules.scan(unit, null);
        for (String method : rules.calls.keySet()) {
            int deep = depth(method, rules.calls, new HashSet<>());
            rule(10, deep <= MOST_DEPTH, method + " goes " + deep + " calls deep");
        }
    }

    public static void main(String[] args) throws IOException {
        JavaCompiler compiler = ToolProvider.getSystemJavaCompiler();
        try (StandardJavaFileManager files = compiler.getStandardFileManager(null, null, null)) {
            JavacTask task = (JavacTask) compiler.getTask(null, files, null, null, null, files.getJavaFileObjects(Path.of(PROGRAM)));
            SourcePositions positions = Trees.instance(task).getSourcePositions();
            for (CompilationUnitTree unit : task.parse()) {
                check(unit, positions);
            }
        }
        System.out.println(wrong == 0 ? "the rules are kept" : wrong + " breaches");
        if (wrong != 0) System.exit(1);
    }
}
