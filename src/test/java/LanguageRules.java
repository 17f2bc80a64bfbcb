import com.sun.source.tree.AssertTree;
import com.sun.source.tree.AssignmentTree;
import com.sun.source.tree.BinaryTree;
import com.sun.source.tree.BlockTree;
import com.sun.source.tree.ClassTree;
import com.sun.source.tree.CompilationUnitTree;
import com.sun.source.tree.CompoundAssignmentTree;
import com.sun.source.tree.DoWhileLoopTree;
import com.sun.source.tree.ExpressionTree;
import com.sun.source.tree.ForLoopTree;
import com.sun.source.tree.IdentifierTree;
import com.sun.source.tree.InstanceOfTree;
import com.sun.source.tree.LambdaExpressionTree;
import com.sun.source.tree.LiteralTree;
import com.sun.source.tree.MemberReferenceTree;
import com.sun.source.tree.MemberSelectTree;
import com.sun.source.tree.MethodInvocationTree;
import com.sun.source.tree.MethodTree;
import com.sun.source.tree.NewArrayTree;
import com.sun.source.tree.NewClassTree;
import com.sun.source.tree.StatementTree;
import com.sun.source.tree.SynchronizedTree;
import com.sun.source.tree.ThrowTree;
import com.sun.source.tree.Tree;
import com.sun.source.tree.TryTree;
import com.sun.source.tree.TypeCastTree;
import com.sun.source.tree.VariableTree;
import com.sun.source.tree.WhileLoopTree;
import com.sun.source.util.JavacTask;
import com.sun.source.util.TreePath;
import com.sun.source.util.TreePathScanner;
import com.sun.source.util.Trees;
import java.io.IOException;
import java.net.URI;
import java.util.ArrayList;
import java.util.EnumSet;
import java.util.HashSet;
import java.util.LinkedHashMap;
import java.util.List;
import java.util.Map;
import java.util.Set;
import java.util.stream.Collectors;
import javax.lang.model.element.Element;
import javax.lang.model.element.ElementKind;
import javax.lang.model.element.Modifier;
import javax.lang.model.element.VariableElement;
import javax.lang.model.type.ArrayType;
import javax.lang.model.type.TypeKind;
import javax.lang.model.type.TypeMirror;
import javax.tools.Diagnostic;
import javax.tools.DiagnosticCollector;
import javax.tools.JavaCompiler;
import javax.tools.JavaFileObject;
import javax.tools.SimpleJavaFileObject;
import javax.tools.ToolProvider;

/** Reads a source as the compiler does, and tells where it leaves the rules of LANGUAGE.md, each by its number. */
final class LanguageRules extends TreePathScanner<Void, Void> {
    private static final Set<TypeKind> NUMBERS = EnumSet.of(TypeKind.INT, TypeKind.LONG, TypeKind.SHORT, TypeKind.BYTE,
        TypeKind.CHAR, TypeKind.BOOLEAN);
    private static final Set<Tree.Kind> CONDITIONS = EnumSet.of(Tree.Kind.IF, Tree.Kind.CONDITIONAL_EXPRESSION,
        Tree.Kind.SWITCH, Tree.Kind.SWITCH_EXPRESSION);
    private static final Set<Tree.Kind> LOOPS = EnumSet.of(Tree.Kind.FOR_LOOP, Tree.Kind.WHILE_LOOP,
        Tree.Kind.DO_WHILE_LOOP, Tree.Kind.ENHANCED_FOR_LOOP);

    private final Trees trees;
    private final CompilationUnitTree unit;
    private final List<String> face;
    private final List<String> broken = new ArrayList<>();
    private final Map<Element, Set<Element>> calls = new LinkedHashMap<>();
    private MethodTree method;
    private boolean callsSeen;

    private LanguageRules(Trees trees, CompilationUnitTree unit, List<String> face) {
        this.trees = trees;
        this.unit = unit;
        this.face = face;
    }

    /** What the source breaks; its public members must be the lines of the face. */
    static List<String> broken(String source, List<String> face) throws IOException {
        JavaCompiler compiler = ToolProvider.getSystemJavaCompiler();
        DiagnosticCollector<JavaFileObject> told = new DiagnosticCollector<>();
        JavaFileObject file = new SimpleJavaFileObject(URI.create("string:///TarArchive.java"), JavaFileObject.Kind.SOURCE) {
            @Override
            public CharSequence getCharContent(boolean ignoreEncodingErrors) {
                return source;
            }
        };
        JavacTask task = (JavacTask) compiler.getTask(null, null, told, List.of("-proc:none"), null, List.of(file));
        CompilationUnitTree unit = task.parse().iterator().next();
        task.analyze();
        for (Diagnostic<?> message : told.getDiagnostics()) {
            if (message.getKind() == Diagnostic.Kind.ERROR) {
                return List.of("it does not compile: " + message);
            }
        }
        LanguageRules rules = new LanguageRules(Trees.instance(task), unit, face);
        rules.scan(unit, null);
        rules.lookAtCalls();
        return rules.broken;
    }

    private void breaks(int rule, String what) {
        String where = method == null ? "" : " in " + method.getName();
        broken.add("rule " + rule + ": " + what + where);
    }

    private Element element(Tree tree) {
        return trees.getElement(TreePath.getPath(unit, tree));
    }

    private static boolean isNumbers(TypeMirror type) {
        return type instanceof ArrayType array && NUMBERS.contains(array.getComponentType().getKind());
    }

    private boolean isArray(Tree tree) {
        TypeMirror type = trees.getTypeMirror(TreePath.getPath(unit, tree));
        return type != null && type.getKind() == TypeKind.ARRAY;
    }

    /** Whether one of these kinds stands between this place and its method or field. */
    private boolean isInside(Set<Tree.Kind> kinds) {
        for (Tree above : getCurrentPath()) {
            if (above.getKind() == Tree.Kind.METHOD) {
                return false;
            }
            if (kinds.contains(above.getKind())) {
                return true;
            }
        }
        return false;
    }

    private boolean inConstructor() {
        return method != null && method.getReturnType() == null;
    }

    // Rules 2 and 3: whatever has a value is a number or an array of numbers, and comes from the class itself.

    @Override
    public Void scan(Tree tree, Void none) {
        if (tree instanceof ExpressionTree) {
            TypeMirror type = trees.getTypeMirror(new TreePath(getCurrentPath(), tree));
            boolean self = tree.toString().equals("this") || tree.toString().startsWith("super");
            if (type != null && !self && !isValue(type)) {
                breaks(2, "the type " + type + " of " + tree);
            }
        }
        return super.scan(tree, none);
    }

    private static boolean isValue(TypeMirror type) {
        TypeKind kind = type.getKind();
        return NUMBERS.contains(kind) || isNumbers(type) || kind == TypeKind.VOID || kind == TypeKind.EXECUTABLE;
    }

    @Override
    public Void visitCompilationUnit(CompilationUnitTree tree, Void none) {
        if (tree.getPackageName() != null || tree.getTypeDecls().size() != 1) {
            breaks(1, "a package line or a second class");
        }
        if (!tree.getImports().isEmpty()) {
            breaks(3, "an import");
        }
        return super.visitCompilationUnit(tree, none);
    }

    @Override
    public Void visitMemberSelect(MemberSelectTree tree, Void none) {
        boolean ownField = tree.getExpression().toString().equals("this");
        boolean length = tree.getIdentifier().contentEquals("length") && isArray(tree.getExpression());
        if (!ownField && !length) {
            breaks(3, "the member " + tree);
        }
        return super.visitMemberSelect(tree, none);
    }

    // Rule 1: one class with the face of the document.

    @Override
    public Void visitClass(ClassTree tree, Void none) {
        if (getCurrentPath().getParentPath().getLeaf() != unit) {
            breaks(1, "a class inside the class");
            return super.visitClass(tree, none);
        }
        boolean plain = tree.getKind() == Tree.Kind.CLASS && tree.getExtendsClause() == null
            && tree.getImplementsClause().isEmpty() && tree.getTypeParameters().isEmpty();
        if (!plain || !tree.getModifiers().getFlags().equals(EnumSet.of(Modifier.PUBLIC, Modifier.FINAL))) {
            breaks(1, "a class that is not public, final and plain");
        }
        lookAtMembers(tree);
        return super.visitClass(tree, none);
    }

    private void lookAtMembers(ClassTree tree) {
        List<String> shown = new ArrayList<>();
        Set<String> publicNames = new HashSet<>();
        Set<String> otherNames = new HashSet<>();
        int fields = 0;
        for (Tree member : tree.getMembers()) {
            if (member instanceof BlockTree block && block.isStatic()) {
                breaks(5, "a static initialiser");
            }
            Set<Modifier> flags = flags(member);
            if (flags.contains(Modifier.PUBLIC)) {
                shown.add(faceLine(member));
            } else if (!flags.contains(Modifier.PRIVATE) && !(member instanceof BlockTree)) {
                breaks(1, "a member that is neither public nor private: " + member);
            }
            if (member instanceof MethodTree made) {
                (flags.contains(Modifier.PUBLIC) ? publicNames : otherNames).add(made.getName().toString());
            }
            fields += member instanceof VariableTree && !flags.contains(Modifier.STATIC) ? 1 : 0;
        }
        if (!shown.equals(face)) {
            breaks(1, "public members that are not the document's: " + shown);
        }
        otherNames.retainAll(publicNames);
        if (!otherNames.isEmpty()) {
            breaks(1, "private methods with the name of a public one: " + otherNames);
        }
        if (fields > 40) {
            breaks(10, fields + " fields");
        }
    }

    private static Set<Modifier> flags(Tree member) {
        if (member instanceof VariableTree field) {
            return field.getModifiers().getFlags();
        }
        if (member instanceof MethodTree made) {
            return made.getModifiers().getFlags();
        }
        return member instanceof ClassTree inner ? inner.getModifiers().getFlags() : Set.of();
    }

    private static String words(Set<Modifier> flags) {
        return flags.stream().map(Modifier::toString).collect(Collectors.joining(" "));
    }

    /** The member as the document writes it. */
    private static String faceLine(Tree member) {
        if (member instanceof VariableTree field) {
            return words(flags(member)) + " " + field.getType() + " " + field.getName() + " = " + field.getInitializer() + ";";
        }
        if (member instanceof MethodTree made) {
            String answer = made.getReturnType() == null ? "TarArchive" : made.getReturnType() + " " + made.getName();
            String given = made.getParameters().stream().map(p -> p.getType() + " " + p.getName())
                .collect(Collectors.joining(", "));
            return words(flags(member)) + " " + answer + "(" + given + ");";
        }
        return "something else";
    }

    // Rules 2, 4 and 5: variables.

    @Override
    public Void visitVariable(VariableTree tree, Void none) {
        VariableElement variable = (VariableElement) trees.getElement(getCurrentPath());
        TypeMirror type = variable.asType();
        if (!NUMBERS.contains(type.getKind()) && !isNumbers(type)) {
            breaks(2, "a variable of type " + type);
        }
        boolean whole = type.getKind() == TypeKind.INT || type.getKind() == TypeKind.LONG;
        if (variable.getModifiers().contains(Modifier.STATIC) && (!whole || variable.getConstantValue() == null)) {
            breaks(5, "the static field " + tree.getName());
        }
        return super.visitVariable(tree, none);
    }

    // Rule 4: arrays.

    @Override
    public Void visitNewArray(NewArrayTree tree, Void none) {
        boolean oneLength = tree.getDimensions().size() == 1 && tree.getInitializers() == null;
        if (!oneLength || !isLength(tree.getDimensions().get(0))) {
            breaks(4, "an array without a constant length: " + tree);
        }
        Tree above = getCurrentPath().getParentPath().getLeaf();
        boolean made = method == null ? above instanceof VariableTree : inConstructor();
        if (!made || isInside(LOOPS) || isInside(CONDITIONS)) {
            breaks(4, "an array made elsewhere than at the start: " + tree);
        }
        if (inConstructor() && callsSeen) {
            breaks(4, "an array made after a call");
        }
        return super.visitNewArray(tree, none);
    }

    private boolean isLength(ExpressionTree tree) {
        Object value = null;
        if (tree instanceof LiteralTree literal) {
            value = literal.getValue();
        } else if (tree instanceof IdentifierTree && element(tree) instanceof VariableElement variable) {
            value = variable.getConstantValue();
        }
        return value instanceof Integer length && length >= 1;
    }

    @Override
    public Void visitNewClass(NewClassTree tree, Void none) {
        breaks(4, "an object made: " + tree);
        return super.visitNewClass(tree, none);
    }

    @Override
    public Void visitAssignment(AssignmentTree tree, Void none) {
        if (isArray(tree.getVariable())) {
            Element variable = element(tree.getVariable());
            boolean field = variable != null && variable.getKind() == ElementKind.FIELD;
            if (field && !inConstructor() || !field && isInside(LOOPS)) {
                breaks(4, "another array for " + tree.getVariable());
            }
        }
        return super.visitAssignment(tree, none);
    }

    @Override
    public Void visitLiteral(LiteralTree tree, Void none) {
        if (tree.getKind() == Tree.Kind.NULL_LITERAL) {
            breaks(4, "null");
        }
        return super.visitLiteral(tree, none);
    }

    // Rule 7: divisors; rule 4: comparing arrays.

    @Override
    public Void visitBinary(BinaryTree tree, Void none) {
        boolean divides = tree.getKind() == Tree.Kind.DIVIDE || tree.getKind() == Tree.Kind.REMAINDER;
        if (divides && !isLength(tree.getRightOperand())) {
            breaks(7, "a divisor that may be 0: " + tree);
        }
        if (isArray(tree.getLeftOperand()) || isArray(tree.getRightOperand())) {
            breaks(4, "arrays compared: " + tree);
        }
        return super.visitBinary(tree, none);
    }

    @Override
    public Void visitCompoundAssignment(CompoundAssignmentTree tree, Void none) {
        boolean divides = tree.getKind() == Tree.Kind.DIVIDE_ASSIGNMENT || tree.getKind() == Tree.Kind.REMAINDER_ASSIGNMENT;
        if (divides && !isLength(tree.getExpression())) {
            breaks(7, "a divisor that may be 0: " + tree);
        }
        return super.visitCompoundAssignment(tree, none);
    }

    // Rule 6: words that are left out.

    private void leftOut(String what) {
        breaks(6, what);
    }

    @Override
    public Void visitThrow(ThrowTree tree, Void none) {
        leftOut("throw");
        return super.visitThrow(tree, none);
    }

    @Override
    public Void visitTry(TryTree tree, Void none) {
        leftOut("try");
        return super.visitTry(tree, none);
    }

    @Override
    public Void visitSynchronized(SynchronizedTree tree, Void none) {
        leftOut("synchronized");
        return super.visitSynchronized(tree, none);
    }

    @Override
    public Void visitAssert(AssertTree tree, Void none) {
        leftOut("assert");
        return super.visitAssert(tree, none);
    }

    @Override
    public Void visitInstanceOf(InstanceOfTree tree, Void none) {
        leftOut("instanceof");
        return super.visitInstanceOf(tree, none);
    }

    @Override
    public Void visitLambdaExpression(LambdaExpressionTree tree, Void none) {
        leftOut("a lambda");
        return super.visitLambdaExpression(tree, none);
    }

    @Override
    public Void visitMemberReference(MemberReferenceTree tree, Void none) {
        leftOut("a method reference");
        return super.visitMemberReference(tree, none);
    }

    @Override
    public Void visitTypeCast(TypeCastTree tree, Void none) {
        if (tree.getType().getKind() != Tree.Kind.PRIMITIVE_TYPE) {
            leftOut("a cast of a reference");
        }
        return super.visitTypeCast(tree, none);
    }

    // Rules 3, 4 and 10: methods and calls.

    @Override
    public Void visitMethod(MethodTree tree, Void none) {
        method = tree;
        callsSeen = false;
        calls.put(trees.getElement(getCurrentPath()), new HashSet<>());
        if (tree.getReturnType() != null && isArray(tree.getReturnType())) {
            breaks(4, "an array answered");
        }
        if (!tree.getThrows().isEmpty() || flags(tree).contains(Modifier.SYNCHRONIZED)) {
            leftOut("throws or synchronized");
        }
        if (tree.getParameters().size() > 7) {
            breaks(10, tree.getParameters().size() + " parameters");
        }
        long lines = lineOf(trees.getSourcePositions().getEndPosition(unit, tree)) - lineOf(
            trees.getSourcePositions().getStartPosition(unit, tree)) + 1;
        if (lines > 60) {
            breaks(10, lines + " lines");
        }
        super.visitMethod(tree, none);
        method = null;
        return null;
    }

    private long lineOf(long position) {
        return unit.getLineMap().getLineNumber(position);
    }

    @Override
    public Void visitMethodInvocation(MethodInvocationTree tree, Void none) {
        Element called = element(tree.getMethodSelect());
        boolean own = called.getEnclosingElement().equals(element(unit.getTypeDecls().get(0)));
        // The compiler itself puts this call into a constructor.
        if (!own && !tree.getMethodSelect().toString().equals("super")) {
            breaks(3, "a call of " + called);
        }
        if (own && method != null) {
            calls.get(element(method)).add(called);
        }
        if (own && inConstructor() && !called.getModifiers().contains(Modifier.STATIC)) {
            callsSeen = true;
            if (tree.getArguments().stream().anyMatch(this::isArray)) {
                breaks(4, "an array handed to a method");
            }
        }
        if (isArgument()) {
            breaks(10, "a call inside the arguments of another: " + tree);
        }
        return super.visitMethodInvocation(tree, none);
    }

    private boolean isArgument() {
        for (TreePath at = getCurrentPath().getParentPath(); at != null; at = at.getParentPath()) {
            if (at.getLeaf() instanceof MethodInvocationTree) {
                return true;
            }
        }
        return false;
    }

    /** Rules 8 and 10: no method comes back to itself, and none goes more than six deep. */
    private void lookAtCalls() {
        for (Element from : calls.keySet()) {
            if (depth(from, new HashSet<>()) > 6) {
                breaks(10, "calls deeper than six from " + from);
            }
            if (reached(from).contains(from)) {
                breaks(8, "recursion of " + from);
            }
        }
    }

    private int depth(Element from, Set<Element> above) {
        int deepest = 0;
        above.add(from);
        for (Element called : calls.getOrDefault(from, Set.of())) {
            if (!above.contains(called)) {
                deepest = Math.max(deepest, depth(called, above));
            }
        }
        above.remove(from);
        return deepest + 1;
    }

    private Set<Element> reached(Element from) {
        Set<Element> met = new HashSet<>();
        List<Element> open = new ArrayList<>(calls.get(from));
        while (!open.isEmpty()) {
            Element next = open.remove(open.size() - 1);
            if (met.add(next)) {
                open.addAll(calls.getOrDefault(next, Set.of()));
            }
        }
        return met;
    }

    // Rule 8: the ends of loops.

    private void lookAtEnd(ExpressionTree condition, List<? extends Tree> updates, StatementTree body) {
        if (!new LoopEnd(this::element).isSeen(condition, updates, body)) {
            breaks(8, "a loop whose end is not seen, while " + condition);
        }
    }

    @Override
    public Void visitForLoop(ForLoopTree tree, Void none) {
        lookAtEnd(tree.getCondition(), tree.getUpdate(), tree.getStatement());
        return super.visitForLoop(tree, none);
    }

    @Override
    public Void visitWhileLoop(WhileLoopTree tree, Void none) {
        lookAtEnd(tree.getCondition(), List.of(), tree.getStatement());
        return super.visitWhileLoop(tree, none);
    }

    @Override
    public Void visitDoWhileLoop(DoWhileLoopTree tree, Void none) {
        lookAtEnd(tree.getCondition(), List.of(), tree.getStatement());
        return super.visitDoWhileLoop(tree, none);
    }
}
