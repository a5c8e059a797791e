import com.sun.source.tree.ArrayTypeTree;
import com.sun.source.tree.BlockTree;
import com.sun.source.tree.ClassTree;
import com.sun.source.tree.CompilationUnitTree;
import com.sun.source.tree.ExpressionTree;
import com.sun.source.tree.IdentifierTree;
import com.sun.source.tree.LineMap;
import com.sun.source.tree.LiteralTree;
import com.sun.source.tree.MemberSelectTree;
import com.sun.source.tree.MethodInvocationTree;
import com.sun.source.tree.MethodTree;
import com.sun.source.tree.NewArrayTree;
import com.sun.source.tree.PrimitiveTypeTree;
import com.sun.source.tree.Tree;
import com.sun.source.tree.Tree.Kind;
import com.sun.source.tree.TypeCastTree;
import com.sun.source.tree.VariableTree;
import com.sun.source.util.JavacTask;
import com.sun.source.util.SourcePositions;
import com.sun.source.util.TreeScanner;
import com.sun.source.util.Trees;
import java.io.IOException;
import java.nio.file.Path;
import java.util.EnumSet;
import java.util.HashSet;
import java.util.Map;
import java.util.Set;
import java.util.TreeMap;
import java.util.TreeSet;
import javax.lang.model.element.Modifier;
import javax.lang.model.type.TypeKind;
import javax.tools.JavaCompiler;
import javax.tools.StandardJavaFileManager;
import javax.tools.ToolProvider;

/**
 * What the syntax tree of the class shows of ../shared/LANGUAGE.md. Who may see a member is left to
 * FaceTest. Left to the reader are the names that arrays go by and whether they are compared (rule 4),
 * that no call throws (rule 7) and that every loop ends (rule 8).
 */
public final class LanguageTest {
    private static final Check CHECK = new Check();
    private static final Path SOURCE = Path.of("src/main/java/CountingRegex.java");
    private static final int MOST_PARAMETERS = 7;
    private static final int MOST_LINES = 60;
    private static final int MOST_DEPTH = 6;
    private static final int MOST_FIELDS = 40;

    private static final Set<TypeKind> TYPES = EnumSet.of(TypeKind.INT, TypeKind.LONG, TypeKind.SHORT,
            TypeKind.BYTE, TypeKind.CHAR, TypeKind.BOOLEAN);
    private static final Set<Kind> LITERALS = EnumSet.of(Kind.INT_LITERAL, Kind.LONG_LITERAL, Kind.CHAR_LITERAL,
            Kind.BOOLEAN_LITERAL);
    private static final Set<Kind> RULED_OUT = EnumSet.of(Kind.THROW, Kind.TRY, Kind.CATCH, Kind.SYNCHRONIZED,
            Kind.ASSERT, Kind.INSTANCE_OF, Kind.LAMBDA_EXPRESSION, Kind.MEMBER_REFERENCE, Kind.NEW_CLASS,
            Kind.ANNOTATION);

    private final CompilationUnitTree unit;
    private final SourcePositions positions;
    private final ClassTree mainClass;
    private final Set<String> constants = new HashSet<>();
    private final Map<String, Set<String>> calls = new TreeMap<>();

    private LanguageTest(CompilationUnitTree unit, SourcePositions positions) {
        this.unit = unit;
        this.positions = positions;
        mainClass = (ClassTree) unit.getTypeDecls().get(0);
    }

    public static void main(String[] args) throws IOException {
        JavaCompiler compiler = ToolProvider.getSystemJavaCompiler();
        try (StandardJavaFileManager files = compiler.getStandardFileManager(null, null, null)) {
            JavacTask task = (JavacTask) compiler.getTask(null, files, null, null, null, files.getJavaFileObjects(SOURCE));
            CompilationUnitTree unit = task.parse().iterator().next();
            new LanguageTest(unit, Trees.instance(task).getSourcePositions()).check();
        }
        CHECK.finish();
    }

    private void check() {
        CHECK.at("the file");
        CHECK.due("has a package line", unit.getPackageName() != null, false);
        CHECK.due("number of imports", unit.getImports().size(), 0);
        CHECK.due("number of classes", unit.getTypeDecls().size(), 1);
        int fields = 0;
        for (Tree member : mainClass.getMembers()) {
            if (member instanceof VariableTree field) {
                fields += checkField(field) ? 1 : 0;
            } else if (member instanceof MethodTree method) {
                checkMethod(method);
            } else {
                wrong("rule 1 and 5: neither a field nor a method", member);
            }
        }
        CHECK.due("rule 10: few fields", fields <= MOST_FIELDS, true);
        checkCalls();
        new Rules().scan(mainClass, null);
    }

    private void wrong(String rule, Tree tree) {
        LineMap lines = unit.getLineMap();
        CHECK.report(rule + ", in line " + lines.getLineNumber(positions.getStartPosition(unit, tree)) + ": " + tree);
    }

    /** Answers whether the field is one beside the constants. */
    private boolean checkField(VariableTree field) {
        Set<Modifier> modifiers = field.getModifiers().getFlags();
        if (!modifiers.contains(Modifier.STATIC)) {
            if (field.getInitializer() instanceof NewArrayTree array) {
                checkNewArray(array);
            }
            return true;
        }
        boolean number = field.getType() instanceof PrimitiveTypeTree type
                && (type.getPrimitiveTypeKind() == TypeKind.INT || type.getPrimitiveTypeKind() == TypeKind.LONG);
        if (!number || !modifiers.contains(Modifier.FINAL) || field.getInitializer() == null) {
            wrong("rule 5: no constant", field);
        }
        constants.add(field.getName().toString());
        return false;
    }

    private void checkNewArray(NewArrayTree array) {
        boolean one = array.getInitializers() == null && array.getDimensions().size() == 1;
        ExpressionTree length = one ? array.getDimensions().get(0) : null;
        boolean constant = length instanceof IdentifierTree name && constants.contains(name.getName().toString());
        if (!constant && !(length instanceof LiteralTree)) {
            wrong("rule 4: the length is neither a literal nor a constant", array);
        }
    }

    private void checkMethod(MethodTree method) {
        BlockTree body = method.getBody();
        LineMap lines = unit.getLineMap();
        long length = lines.getLineNumber(positions.getEndPosition(unit, body))
                - lines.getLineNumber(positions.getStartPosition(unit, body)) + 1;
        CHECK.due("rule 10: " + method.getName() + " is short", length <= MOST_LINES, true);
        CHECK.due("rule 10: parameters of " + method.getName(), method.getParameters().size() <= MOST_PARAMETERS, true);
        Set<String> called = calls.computeIfAbsent(method.getName().toString(), name -> new TreeSet<>());
        new TreeScanner<Void, Void>() {
            @Override
            public Void visitMethodInvocation(MethodInvocationTree call, Void unused) {
                called.add(call.getMethodSelect().toString());
                return super.visitMethodInvocation(call, unused);
            }

            @Override
            public Void visitNewArray(NewArrayTree array, Void unused) {
                wrong("rule 4: an array made outside the fields' initialisers", array);
                return null;
            }
        }.scan(body, null);
        // The parser puts this one into a constructor that has none.
        called.remove("super");
    }

    /** The methods that call no others are 1 deep, those that call these 2, and so on. */
    private void checkCalls() {
        CHECK.at("the calls");
        Set<String> settled = new HashSet<>();
        for (int depth = 1; depth <= MOST_DEPTH; depth++) {
            Set<String> next = new HashSet<>();
            for (Map.Entry<String, Set<String>> method : calls.entrySet()) {
                if (settled.containsAll(method.getValue())) {
                    next.add(method.getKey());
                }
            }
            settled.addAll(next);
        }
        for (String method : calls.keySet()) {
            if (!settled.contains(method)) {
                CHECK.report("rule 3, 8 or 10: " + method + " calls too deep, itself, or what is not of this class");
            }
        }
    }

    /** What holds at every place of the class. */
    private final class Rules extends TreeScanner<Void, Void> {
        private boolean inArguments = false;

        @Override
        public Void scan(Tree tree, Void unused) {
            if (tree != null && RULED_OUT.contains(tree.getKind())) {
                wrong("rule 1, 3, 4 or 6: ruled out", tree);
            }
            return super.scan(tree, unused);
        }

        @Override
        public Void visitClass(ClassTree found, Void unused) {
            if (found != mainClass || found.getExtendsClause() != null || !found.getImplementsClause().isEmpty()) {
                wrong("rule 1: not one plain class", found);
            }
            return super.visitClass(found, unused);
        }

        @Override
        public Void visitVariable(VariableTree variable, Void unused) {
            checkType(variable.getType());
            return super.visitVariable(variable, unused);
        }

        @Override
        public Void visitMethod(MethodTree method, Void unused) {
            Tree type = method.getReturnType();
            boolean nothing = type == null
                    || type instanceof PrimitiveTypeTree plain && plain.getPrimitiveTypeKind() == TypeKind.VOID;
            if (!nothing && !isNumber(type)) {
                wrong("rule 2 and 4: an answer of another type", type);
            }
            return super.visitMethod(method, unused);
        }

        @Override
        public Void visitTypeCast(TypeCastTree cast, Void unused) {
            if (!isNumber(cast.getType())) {
                wrong("rule 6: a cast", cast);
            }
            return super.visitTypeCast(cast, unused);
        }

        @Override
        public Void visitLiteral(LiteralTree literal, Void unused) {
            if (!LITERALS.contains(literal.getKind())) {
                wrong("rule 2 and 4: a literal", literal);
            }
            return null;
        }

        @Override
        public Void visitMemberSelect(MemberSelectTree select, Void unused) {
            boolean own = select.getExpression().toString().equals("this");
            if (!own && !select.getIdentifier().contentEquals("length")) {
                wrong("rule 3: a member of something else", select);
            }
            return super.visitMemberSelect(select, unused);
        }

        @Override
        public Void visitMethodInvocation(MethodInvocationTree call, Void unused) {
            if (inArguments) {
                wrong("rule 10: a call inside the arguments of another", call);
            }
            boolean before = inArguments;
            inArguments = true;
            scan(call.getArguments(), unused);
            inArguments = before;
            return null;
        }

        private void checkType(Tree type) {
            Tree plain = type instanceof ArrayTypeTree array ? array.getType() : type;
            if (!isNumber(plain)) {
                wrong("rule 2: a type", type);
            }
        }

        private boolean isNumber(Tree type) {
            return type instanceof PrimitiveTypeTree plain && TYPES.contains(plain.getPrimitiveTypeKind());
        }
    }
}
