import com.sun.source.tree.AssignmentTree;
import com.sun.source.tree.BlockTree;
import com.sun.source.tree.ClassTree;
import com.sun.source.tree.CompilationUnitTree;
import com.sun.source.tree.ExpressionTree;
import com.sun.source.tree.IdentifierTree;
import com.sun.source.tree.MemberSelectTree;
import com.sun.source.tree.MethodInvocationTree;
import com.sun.source.tree.MethodTree;
import com.sun.source.tree.ModifiersTree;
import com.sun.source.tree.NewArrayTree;
import com.sun.source.tree.PrimitiveTypeTree;
import com.sun.source.tree.Tree;
import com.sun.source.tree.Tree.Kind;
import com.sun.source.tree.VariableTree;
import com.sun.source.util.JavacTask;
import com.sun.source.util.SourcePositions;
import com.sun.source.util.TreeScanner;
import com.sun.source.util.Trees;
import java.io.IOException;
import java.nio.file.Path;
import java.util.EnumSet;
import java.util.HashMap;
import java.util.HashSet;
import java.util.List;
import java.util.Map;
import java.util.Set;
import javax.lang.model.element.Modifier;
import javax.tools.JavaCompiler;
import javax.tools.StandardJavaFileManager;
import javax.tools.ToolProvider;

/** The rules of LANGUAGE.md that can be read off the source's syntax tree; the others need a reader. */
public final class LanguageTest {
    private static final Set<Kind> FORBIDDEN = EnumSet.of(
        Kind.THROW, Kind.TRY, Kind.CATCH, Kind.SYNCHRONIZED, Kind.ASSERT, Kind.INSTANCE_OF, Kind.LAMBDA_EXPRESSION,
        Kind.MEMBER_REFERENCE, Kind.NULL_LITERAL, Kind.STRING_LITERAL, Kind.FLOAT_LITERAL, Kind.DOUBLE_LITERAL,
        Kind.NEW_CLASS, Kind.IMPORT, Kind.PACKAGE, Kind.INTERFACE, Kind.ENUM, Kind.RECORD,
        Kind.ANNOTATION, Kind.PARAMETERIZED_TYPE);
    private static final Set<Kind> NESTING = EnumSet.of(Kind.IF, Kind.FOR_LOOP, Kind.ENHANCED_FOR_LOOP, Kind.WHILE_LOOP,
        Kind.DO_WHILE_LOOP, Kind.SWITCH, Kind.SWITCH_EXPRESSION, Kind.CONDITIONAL_EXPRESSION, Kind.CONDITIONAL_AND,
        Kind.CONDITIONAL_OR);
    private static final Set<String> TYPES = Set.of("INT", "LONG", "SHORT", "BYTE", "CHAR", "BOOLEAN", "VOID");

    private static final Map<String, Set<String>> calls = new HashMap<>();
    private static final Set<String> privateNames = new HashSet<>();
    private static final Set<String> publicNames = new HashSet<>();
    private static final Set<String> arrayFields = new HashSet<>();
    private static int fields = 0;
    private static int classes = 0;
    private static CompilationUnitTree unit;
    private static SourcePositions positions;

    public static void main(String[] args) throws IOException {
        JavaCompiler compiler = ToolProvider.getSystemJavaCompiler();
        try (StandardJavaFileManager files = compiler.getStandardFileManager(null, null, null)) {
            JavacTask task = (JavacTask) compiler.getTask(null, files, null, null, null,
                files.getJavaFileObjects(Path.of("src/main/java/HolisticRta.java")));
            unit = task.parse().iterator().next();
            positions = Trees.instance(task).getSourcePositions();
            new Reader().scan(unit, null);
        }
        Check.due("classes (rule 1)", classes, 1);
        Check.due("at most some forty fields beside the constants (rule 10)", fields <= 45);
        for (String name : privateNames) {
            Check.due("the private " + name + " has no public namesake (rule 1)", !publicNames.contains(name));
        }
        for (String method : calls.keySet()) {
            int deep = depth(method, new HashSet<>());
            Check.due(method + " goes at most six deep, without recursion (rules 8 and 10)", deep <= 6);
        }
        Check.end("LanguageTest");
    }

    private static int depth(String method, Set<String> above) {
        if (!above.add(method)) {
            return 1000;
        }
        int deepest = 0;
        for (String called : calls.get(method)) {
            Check.due(called + ", called in " + method + ", is a method of the class (rule 3)", calls.containsKey(called));
            if (calls.containsKey(called)) {
                deepest = Math.max(deepest, depth(called, above));
            }
        }
        above.remove(method);
        return deepest + 1;
    }

    private static final class Reader extends TreeScanner<Void, Void> {
        private String method = null;
        private boolean inCallArguments = false;
        private boolean inFieldInitialiser = false;
        /** How many loops and conditions stand around what is read. */
        private int nested = 0;

        private long line(Tree tree) {
            return unit.getLineMap().getLineNumber(positions.getStartPosition(unit, tree));
        }

        private long lastLine(Tree tree) {
            return unit.getLineMap().getLineNumber(positions.getEndPosition(unit, tree));
        }

        @Override
        public Void scan(Tree tree, Void nothing) {
            if (tree == null) {
                return null;
            }
            if (FORBIDDEN.contains(tree.getKind())) {
                Check.due("no " + tree.getKind() + " at line " + line(tree), false);
            }
            nested += NESTING.contains(tree.getKind()) ? 1 : 0;
            super.scan(tree, nothing);
            nested -= NESTING.contains(tree.getKind()) ? 1 : 0;
            return null;
        }

        @Override
        public Void visitClass(ClassTree tree, Void nothing) {
            classes++;
            for (Tree member : tree.getMembers()) {
                Check.due("no initialiser block (rule 5)", !(member instanceof BlockTree));
                if (member instanceof VariableTree) {
                    field((VariableTree) member);
                } else {
                    scan(member, nothing);
                }
            }
            return null;
        }

        private void field(VariableTree tree) {
            ModifiersTree modifiers = tree.getModifiers();
            Set<Modifier> flags = modifiers.getFlags();
            if (flags.contains(Modifier.STATIC)) {
                Check.due(tree.getName() + " is a constant of int or long (rule 5)",
                    flags.contains(Modifier.FINAL) && tree.getType() instanceof PrimitiveTypeTree
                        && Set.of("int", "long").contains(tree.getType().toString())
                        && tree.getInitializer() != null);
            } else {
                fields++;
                Check.due(tree.getName() + " is private (rule 1)", flags.contains(Modifier.PRIVATE));
                if (tree.getType().getKind() == Kind.ARRAY_TYPE) {
                    arrayFields.add(tree.getName().toString());
                }
            }
            inFieldInitialiser = true;
            scan(tree, null);
            inFieldInitialiser = false;
        }

        @Override
        public Void visitMethod(MethodTree tree, Void nothing) {
            method = tree.getName().toString();
            calls.putIfAbsent(method, new HashSet<>());
            Set<Modifier> flags = tree.getModifiers().getFlags();
            (flags.contains(Modifier.PRIVATE) ? privateNames : publicNames).add(method);
            Check.due(method + " takes at most seven parameters (rule 10)", tree.getParameters().size() <= 7);
            Check.due(method + " has some sixty lines at most (rule 10)", lastLine(tree) - line(tree) < 70);
            Check.due(method + " answers no array (rule 4)",
                tree.getReturnType() == null || tree.getReturnType().getKind() != Kind.ARRAY_TYPE);
            super.visitMethod(tree, nothing);
            method = null;
            return null;
        }

        @Override
        public Void visitMethodInvocation(MethodInvocationTree tree, Void nothing) {
            ExpressionTree called = tree.getMethodSelect();
            // javac itself puts a call of super() into a constructor only after the tree was read.
            Check.due("the call at line " + line(tree) + " is of an own method (rule 3)", called instanceof IdentifierTree);
            Check.due("the call at line " + line(tree) + " stands in no other call's arguments (rule 10)",
                !inCallArguments);
            calls.get(method).add(called.toString());
            List<? extends ExpressionTree> arguments = tree.getArguments();
            boolean outer = inCallArguments;
            inCallArguments = true;
            scan(arguments, nothing);
            inCallArguments = outer;
            return null;
        }

        @Override
        public Void visitMemberSelect(MemberSelectTree tree, Void nothing) {
            boolean own = Set.of("this", "HolisticRta").contains(tree.getExpression().toString());
            Check.due(tree + " at line " + line(tree) + " is a member of the class or a length (rules 2 and 3)",
                own || tree.getIdentifier().contentEquals("length"));
            return super.visitMemberSelect(tree, nothing);
        }

        @Override
        public Void visitAssignment(AssignmentTree tree, Void nothing) {
            String to = tree.getVariable().toString().replace("this.", "");
            Check.due(to + " at line " + line(tree) + " is no array field, or this is the constructor (rule 4)",
                !arrayFields.contains(to) || "<init>".equals(method));
            return super.visitAssignment(tree, nothing);
        }

        @Override
        public Void visitNewArray(NewArrayTree tree, Void nothing) {
            Check.due("the array at line " + line(tree) + " is made in a field's initialiser or in the constructor (rule 4)",
                inFieldInitialiser || "<init>".equals(method));
            Check.due("the array at line " + line(tree) + " is made in no loop and behind no condition (rule 4)", nested, 0);
            Check.due("the array at line " + line(tree) + " has one dimension, and a length (rule 4)",
                tree.getDimensions().size() == 1 && tree.getInitializers() == null);
            for (ExpressionTree length : tree.getDimensions()) {
                Check.due("the length at line " + line(tree) + " is a literal or a constant (rule 4)",
                    length.getKind() == Kind.INT_LITERAL || length.toString().matches("(HolisticRta\\.)?[A-Z][A-Z0-9_]*"));
            }
            return super.visitNewArray(tree, nothing);
        }

        @Override
        public Void visitVariable(VariableTree tree, Void nothing) {
            Tree type = tree.getType();
            boolean fine = type != null && type.toString().matches("(int|long|short|byte|char|boolean)(\\[\\])?");
            Check.due(tree.getName() + " at line " + line(tree) + " has a type that is left (rule 2)", fine);
            return super.visitVariable(tree, nothing);
        }

        @Override
        public Void visitPrimitiveType(PrimitiveTypeTree tree, Void nothing) {
            Check.due("the type at line " + line(tree) + " is left (rule 2)",
                TYPES.contains(tree.getPrimitiveTypeKind().name()));
            return super.visitPrimitiveType(tree, nothing);
        }
    }
}
