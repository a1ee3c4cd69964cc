import com.sun.source.tree.ArrayTypeTree;
import com.sun.source.tree.AssignmentTree;
import com.sun.source.tree.BlockTree;
import com.sun.source.tree.ClassTree;
import com.sun.source.tree.CompilationUnitTree;
import com.sun.source.tree.CompoundAssignmentTree;
import com.sun.source.tree.ExpressionTree;
import com.sun.source.tree.ForLoopTree;
import com.sun.source.tree.LiteralTree;
import com.sun.source.tree.MemberSelectTree;
import com.sun.source.tree.MethodInvocationTree;
import com.sun.source.tree.MethodTree;
import com.sun.source.tree.ModifiersTree;
import com.sun.source.tree.NewArrayTree;
import com.sun.source.tree.PrimitiveTypeTree;
import com.sun.source.tree.Tree;
import com.sun.source.tree.Tree.Kind;
import com.sun.source.tree.TypeCastTree;
import com.sun.source.tree.UnaryTree;
import com.sun.source.tree.VariableTree;
import com.sun.source.util.JavacTask;
import com.sun.source.util.SourcePositions;
import com.sun.source.util.TreePathScanner;
import com.sun.source.util.Trees;
import java.io.IOException;
import java.net.URI;
import java.util.ArrayList;
import java.util.EnumMap;
import java.util.HashMap;
import java.util.HashSet;
import java.util.List;
import java.util.Map;
import java.util.Set;
import javax.lang.model.element.Modifier;
import javax.lang.model.type.TypeKind;
import javax.tools.JavaFileObject;
import javax.tools.SimpleJavaFileObject;
import javax.tools.ToolProvider;

/**
 * Looks in the text of a class for what LANGUAGE.md forbids. Where a rule leaves more than CardFlash
 * needs (arrays made in the constructor or kept in locals, division, loops that are not counted), the
 * plainer form alone passes: it can be told from the text without a doubt.
 */
final class Language extends TreePathScanner<Void, Void> {
    private static final int MOST_PARAMETERS = 7;
    private static final int MOST_LINES = 60;
    private static final int MOST_DEEP = 6;
    private static final int MOST_FIELDS = 40;
    private static final Map<Kind, Integer> RULE_AGAINST = ruleAgainst();

    private final List<String> breaks = new ArrayList<>();
    private final Set<String> methods = new HashSet<>();
    private final Set<String> constants = new HashSet<>();
    private final Set<String> counters = new HashSet<>();
    private final Map<String, Set<String>> callsOf = new HashMap<>();
    private CompilationUnitTree unit;
    private SourcePositions positions;
    private String method = "";

    private static Map<Kind, Integer> ruleAgainst() {
        Map<Kind, Integer> rules = new EnumMap<>(Kind.class);
        forbid(rules, 1, Kind.PACKAGE, Kind.INTERFACE, Kind.ENUM, Kind.RECORD, Kind.ANNOTATION_TYPE);
        forbid(rules, 2, Kind.STRING_LITERAL, Kind.FLOAT_LITERAL, Kind.DOUBLE_LITERAL);
        forbid(rules, 3, Kind.IMPORT);
        forbid(rules, 4, Kind.NEW_CLASS, Kind.NULL_LITERAL);
        forbid(rules, 6, Kind.THROW, Kind.TRY, Kind.SYNCHRONIZED, Kind.ASSERT, Kind.INSTANCE_OF,
                Kind.LAMBDA_EXPRESSION, Kind.MEMBER_REFERENCE);
        forbid(rules, 7, Kind.DIVIDE, Kind.REMAINDER, Kind.DIVIDE_ASSIGNMENT, Kind.REMAINDER_ASSIGNMENT);
        forbid(rules, 8, Kind.WHILE_LOOP, Kind.DO_WHILE_LOOP, Kind.ENHANCED_FOR_LOOP);
        return rules;
    }

    private static void forbid(Map<Kind, Integer> rules, int rule, Kind... kinds) {
        for (Kind kind : kinds) {
            rules.put(kind, rule);
        }
    }

    /** Each break as "rule N, line L: what". */
    static List<String> breaks(String source) throws IOException {
        Language language = new Language();
        JavacTask task = (JavacTask) ToolProvider.getSystemJavaCompiler().getTask(
                null, null, null, List.of("--release", "17"), null, List.of(file(source)));
        language.positions = Trees.instance(task).getSourcePositions();
        for (CompilationUnitTree parsed : task.parse()) {
            language.unit = parsed;
            language.scan(parsed, null);
        }
        return language.breaks;
    }

    private static JavaFileObject file(String source) {
        return new SimpleJavaFileObject(URI.create("string:///CardFlash.java"), JavaFileObject.Kind.SOURCE) {
            @Override
            public CharSequence getCharContent(boolean ignoreEncodingErrors) {
                return source;
            }
        };
    }

    private void refuse(int rule, Tree where, String what) {
        breaks.add("rule " + rule + ", line " + firstLine(where) + ": " + what);
    }

    private long firstLine(Tree tree) {
        return unit.getLineMap().getLineNumber(positions.getStartPosition(unit, tree));
    }

    private long lastLine(Tree tree) {
        return unit.getLineMap().getLineNumber(positions.getEndPosition(unit, tree));
    }

    private Tree parent() {
        return getCurrentPath().getParentPath().getLeaf();
    }

    @Override
    public Void scan(Tree tree, Void p) {
        if (tree != null && RULE_AGAINST.containsKey(tree.getKind())) {
            refuse(RULE_AGAINST.get(tree.getKind()), tree, tree.getKind().toString());
        }
        return super.scan(tree, p);
    }

    @Override
    public Void visitCompilationUnit(CompilationUnitTree node, Void p) {
        if (node.getTypeDecls().size() != 1) {
            refuse(1, node, "not one class");
        }
        return super.visitCompilationUnit(node, p);
    }

    @Override
    public Void visitClass(ClassTree node, Void p) {
        if (parent() != unit) {
            refuse(1, node, "a class inside another");
            return super.visitClass(node, p);
        }
        int fields = 0;
        for (Tree member : node.getMembers()) {
            if (member instanceof MethodTree declared) {
                methods.add(declared.getName().toString());
            } else if (member instanceof VariableTree field && isStatic(field)) {
                constants.add(field.getName().toString());
            } else if (member instanceof VariableTree) {
                fields++;
            }
        }
        if (fields > MOST_FIELDS) {
            refuse(10, node, fields + " fields");
        }
        super.visitClass(node, p);
        lookAtDepth(node);
        return null;
    }

    private static boolean isStatic(VariableTree field) {
        return field.getModifiers().getFlags().contains(Modifier.STATIC);
    }

    private void lookAtDepth(ClassTree node) {
        for (String name : methods) {
            // Without recursion no chain of calls has more links than there are methods.
            int depth = depth(name, methods.size());
            if (depth > methods.size()) {
                refuse(8, node, "recursion from " + name);
            } else if (depth > MOST_DEEP) {
                refuse(10, node, "calls from " + name + " go " + depth + " deep");
            }
        }
    }

    private int depth(String name, int linksLeft) {
        int deepest = 0;
        if (linksLeft > 0) {
            for (String called : callsOf.getOrDefault(name, Set.of())) {
                deepest = Math.max(deepest, depth(called, linksLeft - 1));
            }
        }
        return deepest + 1;
    }

    @Override
    public Void visitModifiers(ModifiersTree node, Void p) {
        if (node.getFlags().contains(Modifier.SYNCHRONIZED)) {
            refuse(6, node, "synchronized");
        }
        return super.visitModifiers(node, p);
    }

    @Override
    public Void visitMethod(MethodTree node, Void p) {
        Tree answered = node.getReturnType();
        if (answered instanceof ArrayTypeTree) {
            refuse(4, node, "an array is answered");
        } else if (answered != null) {
            lookAtType(answered);
        }
        if (node.getParameters().size() > MOST_PARAMETERS) {
            refuse(10, node, node.getParameters().size() + " parameters");
        }
        long lines = lastLine(node) - firstLine(node) + 1;
        if (lines > MOST_LINES) {
            refuse(10, node, "a method of " + lines + " lines");
        }
        method = node.getName().toString();
        return super.visitMethod(node, p);
    }

    @Override
    public Void visitVariable(VariableTree node, Void p) {
        boolean isFinal = node.getModifiers().getFlags().contains(Modifier.FINAL);
        if (node.getType() instanceof ArrayTypeTree && !(parent() instanceof MethodTree)) {
            if (!isFinal || !(parent() instanceof ClassTree)) {
                refuse(4, node, "an array whose name may come to mean another");
            }
        }
        String type = String.valueOf(node.getType());
        boolean isNumber = type.equals("int") || type.equals("long");
        if (isStatic(node) && !(isFinal && isNumber && isConstant(node.getInitializer()))) {
            refuse(5, node, "a static field that is not a constant of int or long");
        }
        lookAtType(node.getType());
        return super.visitVariable(node, p);
    }

    private void lookAtType(Tree type) {
        Tree element = type instanceof ArrayTypeTree array ? array.getType() : type;
        boolean isAllowed = element instanceof PrimitiveTypeTree primitive
                && primitive.getPrimitiveTypeKind() != TypeKind.FLOAT
                && primitive.getPrimitiveTypeKind() != TypeKind.DOUBLE;
        if (!isAllowed) {
            refuse(2, type == null ? unit : type, "the type " + type);
        }
    }

    /** A literal, one with a sign, or a constant of the class. */
    private boolean isConstant(Tree value) {
        if (value instanceof UnaryTree signed) {
            return isConstant(signed.getExpression());
        }
        return value instanceof LiteralTree || constants.contains(String.valueOf(value));
    }

    @Override
    public Void visitNewArray(NewArrayTree node, Void p) {
        Tree outside = getCurrentPath().getParentPath().getParentPath().getLeaf();
        if (!(parent() instanceof VariableTree) || !(outside instanceof ClassTree)) {
            refuse(4, node, "an array made elsewhere than in a field's initialiser");
        }
        if (node.getDimensions().size() != 1 || !isLength(node.getDimensions().get(0))) {
            refuse(4, node, "an array without one length that is a literal or a constant");
        }
        return super.visitNewArray(node, p);
    }

    private boolean isLength(ExpressionTree length) {
        boolean isNumber = length instanceof LiteralTree literal
                && literal.getValue() instanceof Integer number && number >= 1;
        return isNumber || constants.contains(length.toString());
    }

    @Override
    public Void visitMemberSelect(MemberSelectTree node, Void p) {
        boolean isOwn = node.getExpression().toString().equals("this");
        if (!isOwn && !node.getIdentifier().contentEquals("length")) {
            refuse(3, node, "a member of something else: " + node);
        }
        return super.visitMemberSelect(node, p);
    }

    @Override
    public Void visitMethodInvocation(MethodInvocationTree node, Void p) {
        String called = node.getMethodSelect().toString();
        if (!methods.contains(called)) {
            refuse(3, node, "a call of something else: " + called);
        }
        callsOf.computeIfAbsent(method, name -> new HashSet<>()).add(called);
        for (Tree above : getCurrentPath().getParentPath()) {
            if (above instanceof MethodInvocationTree) {
                refuse(10, node, "a call inside the arguments of another");
            }
        }
        return super.visitMethodInvocation(node, p);
    }

    @Override
    public Void visitBlock(BlockTree node, Void p) {
        if (parent() instanceof ClassTree && node.isStatic()) {
            refuse(5, node, "a static initialiser");
        }
        return super.visitBlock(node, p);
    }

    @Override
    public Void visitTypeCast(TypeCastTree node, Void p) {
        if (node.getType().getKind() != Kind.PRIMITIVE_TYPE) {
            refuse(6, node, "a cast of a reference");
        }
        return super.visitTypeCast(node, p);
    }

    /** The one shape that passes: for (int i = ..; i < CONSTANT; i++), where nothing else changes i. */
    @Override
    public Void visitForLoop(ForLoopTree node, Void p) {
        String text = node.toString().lines().findFirst().orElse("");
        String counter = text.replaceFirst("^for \\(int (\\w+) = .*", "$1");
        String bound = text.replaceFirst("^for \\(int (\\w+) = \\w+; \\1 < (\\w+); \\1\\+\\+\\).*", "$2");
        if (!constants.contains(bound) && !bound.matches("\\d+")) {
            refuse(8, node, "a loop that is not counted up to a constant");
            return super.visitForLoop(node, p);
        }
        scan(node.getInitializer(), p);
        counters.add(counter);
        scan(node.getStatement(), p);
        counters.remove(counter);
        return null;
    }

    @Override
    public Void visitAssignment(AssignmentTree node, Void p) {
        lookAtCounter(node.getVariable());
        return super.visitAssignment(node, p);
    }

    @Override
    public Void visitCompoundAssignment(CompoundAssignmentTree node, Void p) {
        lookAtCounter(node.getVariable());
        return super.visitCompoundAssignment(node, p);
    }

    @Override
    public Void visitUnary(UnaryTree node, Void p) {
        if (node.getKind().toString().matches(".*(IN|DE)CREMENT")) {
            lookAtCounter(node.getExpression());
        }
        return super.visitUnary(node, p);
    }

    private void lookAtCounter(ExpressionTree changed) {
        if (counters.contains(changed.toString())) {
            refuse(8, changed, "a loop's counter is changed inside it");
        }
    }
}
