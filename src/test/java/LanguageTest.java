import com.sun.source.tree.ClassTree;
import com.sun.source.tree.CompilationUnitTree;
import com.sun.source.tree.DoWhileLoopTree;
import com.sun.source.tree.ExpressionTree;
import com.sun.source.tree.ForLoopTree;
import com.sun.source.tree.IdentifierTree;
import com.sun.source.tree.MethodInvocationTree;
import com.sun.source.tree.MethodTree;
import com.sun.source.tree.NewArrayTree;
import com.sun.source.tree.Tree;
import com.sun.source.tree.VariableTree;
import com.sun.source.tree.WhileLoopTree;
import com.sun.source.util.JavacTask;
import com.sun.source.util.SourcePositions;
import com.sun.source.util.TreeScanner;
import com.sun.source.util.Trees;
import java.io.File;
import java.io.IOException;
import java.util.EnumSet;
import java.util.List;
import java.util.Map;
import java.util.Set;
import java.util.TreeMap;
import java.util.TreeSet;
import javax.lang.model.element.Modifier;
import javax.tools.JavaCompiler;
import javax.tools.StandardJavaFileManager;
import javax.tools.ToolProvider;

/** The rules of LANGUAGE.md that can be read off the program's source. */
public final class LanguageTest {
    private static final Set<String> FACE = Set.of("add", "change", "next", "drop", "set", "value",
        "count", "witness", "same", "depends", "tests", "primes", "level", "tick", "cycle",
        "configurations", "soonest", "alarm", "apart", "classes", "<init>", "REFUSED", "FULL");

    private static final Set<String> TYPES = Set.of("int", "long", "short", "byte", "char", "boolean",
        "int[]", "long[]", "short[]", "byte[]", "char[]", "boolean[]", "void");

    /** Rules 2, 3, 4, 6; a dot of any sort would be a library's member or an array's length. */
    private static final Set<Tree.Kind> FORBIDDEN = EnumSet.of(Tree.Kind.MEMBER_SELECT,
        Tree.Kind.MEMBER_REFERENCE, Tree.Kind.LAMBDA_EXPRESSION, Tree.Kind.NEW_CLASS,
        Tree.Kind.NULL_LITERAL, Tree.Kind.STRING_LITERAL, Tree.Kind.DOUBLE_LITERAL,
        Tree.Kind.FLOAT_LITERAL, Tree.Kind.THROW, Tree.Kind.TRY, Tree.Kind.CATCH,
        Tree.Kind.SYNCHRONIZED, Tree.Kind.ASSERT, Tree.Kind.INSTANCE_OF, Tree.Kind.IMPORT,
        Tree.Kind.PACKAGE, Tree.Kind.ANNOTATION, Tree.Kind.ENHANCED_FOR_LOOP,
        Tree.Kind.INTERFACE, Tree.Kind.ENUM, Tree.Kind.RECORD);

    private static final Due due = new Due();

    public static void main(String[] args) throws IOException {
        JavaCompiler compiler = ToolProvider.getSystemJavaCompiler();
        try (StandardJavaFileManager files = compiler.getStandardFileManager(null, null, null)) {
            JavacTask task = (JavacTask) compiler.getTask(null, files, null, null, null,
                files.getJavaFileObjects(new File("src/main/java/GateWorkbench.java")));
            CompilationUnitTree unit = task.parse().iterator().next();
            due.is("rule 1: classes", unit.getTypeDecls().size(), 1);
            due.is("rule 3: imports", unit.getImports().size(), 0);
            ClassTree program = (ClassTree) unit.getTypeDecls().get(0);
            members(program);
            parts(program);
            calls(program);
            lengths(unit, program, Trees.instance(task).getSourcePositions());
        }
        due.end();
    }

    private static void members(ClassTree program) {
        due.is("rule 1: public final class",
            program.getModifiers().getFlags().equals(Set.of(Modifier.PUBLIC, Modifier.FINAL)), true);
        Set<String> face = new TreeSet<>();
        Set<String> inside = new TreeSet<>();
        int fields = 0;
        for (Tree member : program.getMembers()) {
            boolean isField = member instanceof VariableTree;
            due.is("rule 1: a field or method", isField || member instanceof MethodTree, true);
            Set<Modifier> flags = isField
                ? ((VariableTree) member).getModifiers().getFlags()
                : ((MethodTree) member).getModifiers().getFlags();
            String name = isField
                ? ((VariableTree) member).getName().toString()
                : ((MethodTree) member).getName().toString();
            due.is("rule 1: one such name: " + name,
                (flags.contains(Modifier.PUBLIC) ? face : inside).add(name), true);
            due.is("rule 1: public or private: " + name,
                flags.contains(Modifier.PUBLIC) || flags.contains(Modifier.PRIVATE), true);
            if (isField) {
                fields += field((VariableTree) member, flags);
            }
        }
        due.is("rule 1: the face of the document " + face, face.equals(FACE), true);
        inside.retainAll(face);
        due.is("rule 1: private names that are public ones " + inside, inside.size(), 0);
        due.is("rule 10: fields " + fields, fields <= 40, true);
    }

    /** 1 for a field of the object, 0 for a constant. */
    private static int field(VariableTree field, Set<Modifier> flags) {
        if (!flags.contains(Modifier.STATIC)) {
            return 1;
        }
        String type = field.getType().toString();
        due.is("rule 5: constant " + field.getName(), flags.contains(Modifier.FINAL)
            && (type.equals("int") || type.equals("long")), true);
        return 0;
    }

    private static void parts(ClassTree program) {
        for (Tree member : program.getMembers()) {
            boolean isField = member instanceof VariableTree;
            new TreeScanner<Void, Void>() {
                @Override
                public Void scan(Tree tree, Void unused) {
                    if (tree != null) {
                        due.is("a " + tree.getKind() + ": " + tree, FORBIDDEN.contains(tree.getKind()), false);
                    }
                    return super.scan(tree, unused);
                }

                @Override
                public Void visitVariable(VariableTree variable, Void unused) {
                    String type = variable.getType().toString();
                    due.is("rule 2: type " + type, TYPES.contains(type), true);
                    return super.visitVariable(variable, unused);
                }

                @Override
                public Void visitNewArray(NewArrayTree array, Void unused) {
                    due.is("rule 4: made in a field: " + array, isField, true);
                    due.is("rule 4: one length: " + array, array.getDimensions().size(), 1);
                    due.is("rule 4: a constant: " + array, isConstant(array.getDimensions().get(0)), true);
                    return super.visitNewArray(array, unused);
                }

                @Override
                public Void visitForLoop(ForLoopTree loop, Void unused) {
                    due.is("rule 8: a bound: " + loop.getUpdate(),
                        loop.getCondition() != null && loop.getUpdate().size() == 1, true);
                    return super.visitForLoop(loop, unused);
                }

                @Override
                public Void visitWhileLoop(WhileLoopTree loop, Void unused) {
                    due.is("rule 8: no counter: " + loop.getCondition(), 1, 0);
                    return super.visitWhileLoop(loop, unused);
                }

                @Override
                public Void visitDoWhileLoop(DoWhileLoopTree loop, Void unused) {
                    due.is("rule 8: no counter: " + loop.getCondition(), 1, 0);
                    return super.visitDoWhileLoop(loop, unused);
                }
            }.scan(member, null);
        }
    }

    private static boolean isConstant(ExpressionTree length) {
        return length.getKind() == Tree.Kind.INT_LITERAL
            || length instanceof IdentifierTree && length.toString().matches("[A-Z_]+");
    }

    private static void calls(ClassTree program) {
        Map<String, Set<String>> called = new TreeMap<>();
        for (Tree member : program.getMembers()) {
            if (member instanceof MethodTree method) {
                called.put(method.getName().toString(), callsIn(method.getBody()));
            }
        }
        for (MethodTree method : methods(program)) {
            String name = method.getName().toString();
            due.is("rule 10: parameters of " + name, method.getParameters().size() <= 7, true);
            due.is("rule 2: answer of " + name, method.getReturnType() == null
                || TYPES.contains(method.getReturnType().toString())
                && !method.getReturnType().toString().endsWith("[]"), true);
            due.is("rules 8, 10: calls go at most six deep: " + name, depth(name, called, 7) <= 6, true);
        }
    }

    private static List<MethodTree> methods(ClassTree program) {
        return program.getMembers().stream()
            .filter(MethodTree.class::isInstance).map(MethodTree.class::cast).toList();
    }

    private static Set<String> callsIn(Tree body) {
        Set<String> found = new TreeSet<>();
        new TreeScanner<Void, Void>() {
            @Override
            public Void visitMethodInvocation(MethodInvocationTree call, Void unused) {
                String name = call.getMethodSelect().toString();
                // The parsed constructor tells no call; one to super would be the compiler's own.
                if (!name.equals("super")) {
                    found.add(name);
                }
                for (ExpressionTree argument : call.getArguments()) {
                    due.is("rule 10: a call inside the arguments: " + call, callsIn(argument).size(), 0);
                }
                return super.visitMethodInvocation(call, unused);
            }
        }.scan(body, null);
        return found;
    }

    /** How many methods stand one inside the other at most; the limit ends a recursion. */
    private static int depth(String name, Map<String, Set<String>> called, int limit) {
        due.is("a method of the class: " + name, called.containsKey(name), true);
        int deepest = 0;
        if (limit > 0) {
            for (String callee : called.getOrDefault(name, Set.of())) {
                deepest = Math.max(deepest, depth(callee, called, limit - 1));
            }
        }
        return 1 + deepest;
    }

    private static void lengths(CompilationUnitTree unit, ClassTree program, SourcePositions positions) {
        for (MethodTree method : methods(program)) {
            long first = unit.getLineMap().getLineNumber(positions.getStartPosition(unit, method));
            long last = unit.getLineMap().getLineNumber(positions.getEndPosition(unit, method));
            due.is("rule 10: lines of " + method.getName(), last - first < 60, true);
        }
    }
}
