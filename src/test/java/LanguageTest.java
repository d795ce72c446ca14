import com.sun.source.tree.BinaryTree;
import com.sun.source.tree.ClassTree;
import com.sun.source.tree.CompilationUnitTree;
import com.sun.source.tree.DoWhileLoopTree;
import com.sun.source.tree.ExpressionTree;
import com.sun.source.tree.ForLoopTree;
import com.sun.source.tree.MemberSelectTree;
import com.sun.source.tree.MethodInvocationTree;
import com.sun.source.tree.MethodTree;
import com.sun.source.tree.NewArrayTree;
import com.sun.source.tree.Tree;
import com.sun.source.tree.VariableTree;
import com.sun.source.tree.WhileLoopTree;
import com.sun.source.util.JavacTask;
import com.sun.source.util.SourcePositions;
import com.sun.source.util.TreeScanner;
import com.sun.source.util.Trees;
import java.io.File;
import java.io.IOException;
import java.lang.reflect.Method;
import java.util.EnumSet;
import java.util.List;
import java.util.Map;
import java.util.Set;
import java.util.TreeMap;
import java.util.TreeSet;
import javax.lang.model.element.Modifier;
import javax.tools.JavaCompiler;
import javax.tools.StandardJavaFileManager;
import javax.tools.ToolProvider;

/** The rules of LANGUAGE.md that can be read off the program's source. */
public final class LanguageTest {
    private static final Set<String> FACE = Set.of("add", "change", "next", "drop", "set", "value",
        "count", "witness", "same", "depends", "tests", "primes", "level", "tick", "cycle",
        "configurations", "soonest", "alarm", "apart", "classes", "<init>", "REFUSED", "FULL");

    private static final Set<String> SIGNATURES = Set.of(
        "public int add(int,int,int,int)", "public boolean change(int,int,int,int,int)",
        "public boolean next(int,int)", "public int drop()", "public boolean set(int,boolean)",
        "public int value(int)", "public int count(int)", "public int witness(int,int)",
        "public boolean same(int,int)", "public boolean depends(int,int)",
        "public int tests(int,boolean,int)", "public int primes(int)", "public int level(int,int)",
        "public int tick(int)", "public int cycle(int)", "public int configurations()",
        "public int soonest(int)", "public int alarm(int)", "public int apart(int,int,int)",
        "public int classes(int)");

    private static final Set<String> TYPES = Set.of("int", "long", "short", "byte", "char", "boolean",
        "int[]", "long[]", "short[]", "byte[]", "char[]", "boolean[]", "void");

    /** Rules 2, 3, 4, 6. */
    private static final Set<Tree.Kind> FORBIDDEN = EnumSet.of(
        Tree.Kind.MEMBER_REFERENCE, Tree.Kind.LAMBDA_EXPRESSION, Tree.Kind.NEW_CLASS,
        Tree.Kind.NULL_LITERAL, Tree.Kind.STRING_LITERAL, Tree.Kind.DOUBLE_LITERAL,
        Tree.Kind.FLOAT_LITERAL, Tree.Kind.THROW, Tree.Kind.TRY, Tree.Kind.CATCH,
        Tree.Kind.SYNCHRONIZED, Tree.Kind.ASSERT, Tree.Kind.INSTANCE_OF, Tree.Kind.IMPORT,
        Tree.Kind.PACKAGE, Tree.Kind.ANNOTATION, Tree.Kind.INTERFACE, Tree.Kind.ENUM, Tree.Kind.RECORD);

    private static final Due due = new Due();

    public static void main(String[] args) throws IOException {
        JavaCompiler compiler = ToolProvider.getSystemJavaCompiler();
        try (StandardJavaFileManager files = compiler.getStandardFileManager(null, null, null)) {
            JavacTask task = (JavacTask) compiler.getTask(null, files, null, null, null,
                files.getJavaFileObjects(new File("src/main/java/GateWorkbench.java")));
            CompilationUnitTree unit = task.parse().iterator().next();
            due.is("rule 1: classes", unit.getTypeDecls().size(), 1);
            due.is("rule 3: imports", unit.getImports().size(), 0);
            ClassTree program = (ClassTree) unit.getTypeDecls().get(0);
            members(program);
            signatures();
            parts(program);
            calls(program);
            lengths(unit, program, Trees.instance(task).getSourcePositions());
        }
        due.end();
    }

    private static void members(ClassTree program) {
        due.is("rule 1: public final class",
            program.getModifiers().getFlags().equals(Set.of(Modifier.PUBLIC, Modifier.FINAL)), true);
        Set<String> face = new TreeSet<>();
        Set<String> privateMethods = new TreeSet<>();
        int fields = 0;
        for (Tree member : program.getMembers()) {
            boolean isField = member instanceof VariableTree;
            due.is("rule 1: a field or method", isField || member instanceof MethodTree, true);
            Set<Modifier> flags = isField
                ? ((VariableTree) member).getModifiers().getFlags()
                : ((MethodTree) member).getModifiers().getFlags();
            String name = isField
                ? ((VariableTree) member).getName().toString()
                : ((MethodTree) member).getName().toString();
            if (flags.contains(Modifier.PUBLIC)) {
                due.is("rule 1: one public " + name, face.add(name), true);
            } else {
                due.is("rule 1: public or private: " + name, flags.contains(Modifier.PRIVATE), true);
                if (!isField) {
                    privateMethods.add(name);
                }
            }
            if (isField) {
                fields += field((VariableTree) member, flags);
            }
        }
        due.is("rule 1: the face of the document " + face, face.equals(FACE), true);
        privateMethods.retainAll(face);
        due.is("rule 1: private methods with public names " + privateMethods, privateMethods.size(), 0);
        due.is("rule 10: fields " + fields, fields <= 44, true);
    }

    /** 1 for a field of the object, 0 for a constant. */
    private static int field(VariableTree field, Set<Modifier> flags) {
        if (!flags.contains(Modifier.STATIC)) {
            return 1;
        }
        String type = field.getType().toString();
        due.is("rule 5: constant " + field.getName(), flags.contains(Modifier.FINAL)
            && (type.equals("int") || type.equals("long")), true);
        return 0;
    }

    private static void signatures() {
        Set<String> found = new TreeSet<>();
        for (Method method : GateWorkbench.class.getDeclaredMethods()) {
            if (java.lang.reflect.Modifier.isPublic(method.getModifiers())) {
                found.add(method.toString().replace("GateWorkbench.", ""));
            }
        }
        due.is("rule 1: the methods of the document " + found, found.equals(SIGNATURES), true);
    }

    private static void parts(ClassTree program) {
        for (Tree member : program.getMembers()) {
            new Parts(member, constants(program)).scan(member, null);
        }
    }

    private static Set<String> constants(ClassTree program) {
        Set<String> found = new TreeSet<>();
        for (Tree member : program.getMembers()) {
            if (member instanceof VariableTree field
                    && field.getModifiers().getFlags().contains(Modifier.STATIC)) {
                found.add(field.getName().toString());
            }
        }
        return found;
    }

    /** Looks at every part of one field or method. */
    private static final class Parts extends TreeScanner<Void, Void> {
        private static final Set<Tree.Kind> BRANCHES = EnumSet.of(Tree.Kind.IF, Tree.Kind.SWITCH,
            Tree.Kind.CONDITIONAL_EXPRESSION, Tree.Kind.FOR_LOOP, Tree.Kind.WHILE_LOOP,
            Tree.Kind.DO_WHILE_LOOP, Tree.Kind.ENHANCED_FOR_LOOP);

        private final boolean mayMakeArrays;
        private final Set<String> constants;
        private int branches = 0;

        Parts(Tree member, Set<String> constants) {
            this.mayMakeArrays = member instanceof VariableTree
                || ((MethodTree) member).getName().contentEquals("<init>");
            this.constants = constants;
        }

        @Override
        public Void scan(Tree tree, Void unused) {
            if (tree == null) {
                return null;
            }
            due.is("a " + tree.getKind() + ": " + tree, FORBIDDEN.contains(tree.getKind()), false);
            int more = BRANCHES.contains(tree.getKind()) ? 1 : 0;
            branches += more;
            super.scan(tree, unused);
            branches -= more;
            return null;
        }

        @Override
        public Void visitMemberSelect(MemberSelectTree select, Void unused) {
            due.is("rule 3: " + select, select.getExpression().toString().equals("this")
                || select.getIdentifier().contentEquals("length"), true);
            return super.visitMemberSelect(select, unused);
        }

        @Override
        public Void visitVariable(VariableTree variable, Void unused) {
            String type = String.valueOf(variable.getType());
            due.is("rule 2: type " + type, TYPES.contains(type), true);
            return super.visitVariable(variable, unused);
        }

        @Override
        public Void visitNewArray(NewArrayTree array, Void unused) {
            due.is("rule 4: made at the start: " + array, mayMakeArrays && branches == 0, true);
            due.is("rule 4: one length: " + array, array.getDimensions().size(), 1);
            for (ExpressionTree length : array.getDimensions()) {
                due.is("rule 4: a constant: " + array, isConstant(length), true);
            }
            return super.visitNewArray(array, unused);
        }

        private boolean isConstant(ExpressionTree length) {
            if (length instanceof BinaryTree both) {
                return isConstant(both.getLeftOperand()) && isConstant(both.getRightOperand());
            }
            return length.getKind() == Tree.Kind.INT_LITERAL || constants.contains(length.toString());
        }

        @Override
        public Void visitForLoop(ForLoopTree loop, Void unused) {
            due.is("rule 8: a bound: " + loop.getUpdate(), compares(loop.getCondition()), true);
            return super.visitForLoop(loop, unused);
        }

        @Override
        public Void visitWhileLoop(WhileLoopTree loop, Void unused) {
            due.is("rule 8: a bound: " + loop.getCondition(), compares(loop.getCondition()), true);
            return super.visitWhileLoop(loop, unused);
        }

        @Override
        public Void visitDoWhileLoop(DoWhileLoopTree loop, Void unused) {
            due.is("rule 8: a bound: " + loop.getCondition(), compares(loop.getCondition()), true);
            return super.visitDoWhileLoop(loop, unused);
        }

        private static boolean compares(ExpressionTree condition) {
            return condition != null && condition.toString().matches("(?s).*(<|>|!=).*");
        }
    }

    private static void calls(ClassTree program) {
        Map<String, Set<String>> called = new TreeMap<>();
        for (Tree member : program.getMembers()) {
            if (member instanceof MethodTree method) {
                called.computeIfAbsent(method.getName().toString(), name -> new TreeSet<>())
                    .addAll(callsIn(method.getBody()));
            }
        }
        for (MethodTree method : methods(program)) {
            String name = method.getName().toString();
            due.is("rule 10: parameters of " + name, method.getParameters().size() <= 7, true);
            due.is("rule 2: answer of " + name, method.getReturnType() == null
                || TYPES.contains(method.getReturnType().toString())
                && !method.getReturnType().toString().endsWith("[]"), true);
            due.is("rules 8, 10: calls go at most six deep: " + name, depth(name, called, 7) <= 6, true);
        }
    }

    private static List<MethodTree> methods(ClassTree program) {
        return program.getMembers().stream()
            .filter(MethodTree.class::isInstance).map(MethodTree.class::cast).toList();
    }

    private static Set<String> callsIn(Tree body) {
        Set<String> found = new TreeSet<>();
        new TreeScanner<Void, Void>() {
            @Override
            public Void visitMethodInvocation(MethodInvocationTree call, Void unused) {
                String name = call.getMethodSelect().toString().replaceFirst("^this\\.", "");
                // The parsed constructor tells no call; one to super would be the compiler's own.
                if (!name.equals("super")) {
                    found.add(name);
                }
                for (ExpressionTree argument : call.getArguments()) {
                    due.is("rule 10: a call inside the arguments: " + call, callsIn(argument).size(), 0);
                }
                return super.visitMethodInvocation(call, unused);
            }
        }.scan(body, null);
        return found;
    }

    /** How many methods stand one inside the other at most; the limit ends a recursion. */
    private static int depth(String name, Map<String, Set<String>> called, int limit) {
        due.is("a method of the class: " + name, called.containsKey(name), true);
        int deepest = 0;
        if (limit > 0) {
            for (String callee : called.getOrDefault(name, Set.of())) {
                deepest = Math.max(deepest, depth(callee, called, limit - 1));
            }
        }
        return 1 + deepest;
    }

    private static void lengths(CompilationUnitTree unit, ClassTree program, SourcePositions positions) {
        for (MethodTree method : methods(program)) {
            long first = unit.getLineMap().getLineNumber(positions.getStartPosition(unit, method));
            long last = unit.getLineMap().getLineNumber(positions.getEndPosition(unit, method));
            due.is("rule 10: lines of " + method.getName(), last - first < 66, true);
        }
    }
}
