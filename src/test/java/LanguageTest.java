import com.sun.source.tree.ArrayTypeTree;
import com.sun.source.tree.ClassTree;
import com.sun.source.tree.CompilationUnitTree;
import com.sun.source.tree.IdentifierTree;
import com.sun.source.tree.MemberSelectTree;
import com.sun.source.tree.MethodInvocationTree;
import com.sun.source.tree.MethodTree;
import com.sun.source.tree.NewArrayTree;
import com.sun.source.tree.PrimitiveTypeTree;
import com.sun.source.tree.Tree;
import com.sun.source.tree.TypeCastTree;
import com.sun.source.tree.VariableTree;
import com.sun.source.util.JavacTask;
import com.sun.source.util.SourcePositions;
import com.sun.source.util.TreeScanner;
import com.sun.source.util.Trees;
import java.io.File;
import java.io.IOException;
import java.util.List;
import java.util.Map;
import java.util.Set;
import java.util.TreeMap;
import java.util.TreeSet;
import javax.lang.model.element.Modifier;
import javax.lang.model.type.TypeKind;
import javax.tools.JavaCompiler;
import javax.tools.StandardJavaFileManager;
import javax.tools.ToolProvider;

/**
 * The rules of LANGUAGE.md that the shape of the source shows: 2 to 6, recursion (8) and the sizes (10).
 * FaceTest has rule 1; that indexes are in range and loops end (7, 8) is for the reader and the other tests.
 */
public final class LanguageTest {
    private static final String SOURCE = "src/main/java/OctreeSolid.java";

    /** Kinds of code that no rule allows, or that would need a library's class. */
    private static final Set<Tree.Kind> RULED_OUT = Set.of(
        Tree.Kind.PACKAGE, Tree.Kind.IMPORT, Tree.Kind.INTERFACE, Tree.Kind.ENUM, Tree.Kind.RECORD,
        Tree.Kind.ANNOTATION, Tree.Kind.PARAMETERIZED_TYPE, Tree.Kind.TYPE_PARAMETER, Tree.Kind.NEW_CLASS,
        Tree.Kind.FLOAT_LITERAL, Tree.Kind.DOUBLE_LITERAL, Tree.Kind.STRING_LITERAL, Tree.Kind.NULL_LITERAL,
        Tree.Kind.THROW, Tree.Kind.TRY, Tree.Kind.CATCH, Tree.Kind.SYNCHRONIZED, Tree.Kind.ASSERT,
        Tree.Kind.INSTANCE_OF, Tree.Kind.LAMBDA_EXPRESSION, Tree.Kind.MEMBER_REFERENCE,
        Tree.Kind.ENHANCED_FOR_LOOP);

    private static final int MOST_PARAMETERS = 7;
    private static final int MOST_LINES = 60;
    private static final int DEEPEST = 6;
    private static final int MOST_FIELDS = 40;

    private static final Checks checks = new Checks();

    public static void main(String[] args) throws IOException {
        JavaCompiler compiler = ToolProvider.getSystemJavaCompiler();
        try (StandardJavaFileManager files = compiler.getStandardFileManager(null, null, null)) {
            JavacTask task = (JavacTask) compiler.getTask(null, files, null, null, null,
                files.getJavaFileObjects(new File(args.length == 0 ? SOURCE : args[0])));
            SourcePositions places = Trees.instance(task).getSourcePositions();
            for (CompilationUnitTree unit : task.parse()) {
                Reader reader = new Reader(unit, places);
                reader.scan(unit, null);
                checkCalls(reader.calls);
                checks.due("classes", 1, reader.classes);
                checks.due("more than 40 fields beside the constants", false, reader.fields > MOST_FIELDS);
            }
        }
        checks.finish();
    }

    private static void checkCalls(Map<String, Set<String>> calls) {
        for (String name : calls.keySet()) {
            checks.due("calls from " + name + " go in a circle or too deep", false,
                depth(name, calls, DEEPEST + 1) > DEEPEST);
        }
    }

    /** How deep calls go from this method, itself counted; no more than the limit, so a circle ends too. */
    private static int depth(String name, Map<String, Set<String>> calls, int limit) {
        int below = 0;
        for (String called : calls.getOrDefault(name, Set.of())) {
            if (limit > 1) {
                below = Math.max(below, depth(called, calls, limit - 1));
            }
        }
        return below + 1;
    }

    private static final class Reader extends TreeScanner<Void, Void> {
        final Map<String, Set<String>> calls = new TreeMap<>();
        int classes = 0;
        int fields = 0;

        private final CompilationUnitTree unit;
        private final SourcePositions places;
        private final Set<String> methods = new TreeSet<>();
        private MethodTree method = null;
        private int argumentsAround = 0;

        Reader(CompilationUnitTree unit, SourcePositions places) {
            this.unit = unit;
            this.places = places;
        }

        @Override
        public Void scan(Tree tree, Void nothing) {
            if (tree != null) {
                rule(tree, tree.getKind() + " is ruled out", !RULED_OUT.contains(tree.getKind()));
            }
            return super.scan(tree, nothing);
        }

        @Override
        public Void visitClass(ClassTree type, Void nothing) {
            classes++;
            for (Tree member : type.getMembers()) {
                rule(member, "initialiser block", member.getKind() != Tree.Kind.BLOCK);
                if (member instanceof MethodTree) {
                    methods.add(((MethodTree) member).getName().toString());
                } else if (member instanceof VariableTree) {
                    checkField((VariableTree) member);
                }
            }
            return super.visitClass(type, nothing);
        }

        private void checkField(VariableTree field) {
            Set<Modifier> marks = field.getModifiers().getFlags();
            if (marks.contains(Modifier.STATIC)) {
                String type = field.getType().toString();
                rule(field, "static field is a constant of int or long", marks.contains(Modifier.FINAL)
                    && field.getInitializer() != null && (type.equals("int") || type.equals("long")));
            } else {
                fields++;
                // A final field makes sure that no method assigns to it.
                rule(field, "array field is final", marks.contains(Modifier.FINAL)
                    || field.getType().getKind() != Tree.Kind.ARRAY_TYPE);
            }
        }

        @Override
        public Void visitMethod(MethodTree made, Void nothing) {
            method = made;
            calls.put(made.getName().toString(), new TreeSet<>());
            rule(made, "at most seven parameters", made.getParameters().size() <= MOST_PARAMETERS);
            rule(made, "at most sixty lines", lastLine(made) - line(made) < MOST_LINES);
            rule(made, "not synchronized", !made.getModifiers().getFlags().contains(Modifier.SYNCHRONIZED));
            rule(made, "no exceptions declared", made.getThrows().isEmpty());
            rule(made, "no array answered", made.getReturnType() == null
                || made.getReturnType().getKind() == Tree.Kind.PRIMITIVE_TYPE);
            super.visitMethod(made, nothing);
            method = null;
            return null;
        }

        @Override
        public Void visitVariable(VariableTree variable, Void nothing) {
            Tree type = variable.getType();
            Tree element = type instanceof ArrayTypeTree ? ((ArrayTypeTree) type).getType() : type;
            rule(variable, "type is a primitive one or an array of it", element instanceof PrimitiveTypeTree);
            // A call with a list of any length would make an array.
            rule(variable, "parameter list of any length", !variable.toString().contains("..."));
            return super.visitVariable(variable, nothing);
        }

        @Override
        public Void visitPrimitiveType(PrimitiveTypeTree type, Void nothing) {
            TypeKind kind = type.getPrimitiveTypeKind();
            rule(type, "no float or double", kind != TypeKind.FLOAT && kind != TypeKind.DOUBLE);
            return super.visitPrimitiveType(type, nothing);
        }

        @Override
        public Void visitTypeCast(TypeCastTree cast, Void nothing) {
            rule(cast, "cast between number types", cast.getType() instanceof PrimitiveTypeTree);
            return super.visitTypeCast(cast, nothing);
        }

        @Override
        public Void visitNewArray(NewArrayTree array, Void nothing) {
            List<?> lengths = array.getDimensions();
            // Stricter than rule 4, which allows the constructor too: here all stand in the fields' initialisers.
            rule(array, "array made in a field's initialiser, with one length", method == null && lengths.size() == 1);
            return super.visitNewArray(array, nothing);
        }

        @Override
        public Void visitMemberSelect(MemberSelectTree select, Void nothing) {
            boolean own = select.getExpression().toString().equals("this");
            rule(select, "a name after a dot is length or an own member",
                own || select.getIdentifier().contentEquals("length"));
            return super.visitMemberSelect(select, nothing);
        }

        @Override
        public Void visitMethodInvocation(MethodInvocationTree call, Void nothing) {
            Tree target = call.getMethodSelect();
            String name = target.toString();
            rule(call, "call of a method of the class", target instanceof IdentifierTree && methods.contains(name));
            rule(call, "call inside the arguments of another one", argumentsAround == 0);
            if (method != null) {
                calls.get(method.getName().toString()).add(name);
            }
            argumentsAround++;
            super.visitMethodInvocation(call, nothing);
            argumentsAround--;
            return null;
        }

        private void rule(Tree tree, String text, boolean kept) {
            if (!kept) {
                checks.due("line " + line(tree) + ": " + text, true, false);
            }
        }

        private long line(Tree tree) {
            return unit.getLineMap().getLineNumber(Math.max(0, places.getStartPosition(unit, tree)));
        }

        private long lastLine(Tree tree) {
            return unit.getLineMap().getLineNumber(Math.max(0, places.getEndPosition(unit, tree)));
        }
    }
}
