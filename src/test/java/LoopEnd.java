import com.sun.source.tree.ArrayAccessTree;
import com.sun.source.tree.AssignmentTree;
import com.sun.source.tree.BinaryTree;
import com.sun.source.tree.BlockTree;
import com.sun.source.tree.CompoundAssignmentTree;
import com.sun.source.tree.ContinueTree;
import com.sun.source.tree.ExpressionStatementTree;
import com.sun.source.tree.ExpressionTree;
import com.sun.source.tree.IdentifierTree;
import com.sun.source.tree.LiteralTree;
import com.sun.source.tree.MethodInvocationTree;
import com.sun.source.tree.ParenthesizedTree;
import com.sun.source.tree.StatementTree;
import com.sun.source.tree.Tree;
import com.sun.source.tree.UnaryTree;
import com.sun.source.util.TreeScanner;
import java.util.ArrayList;
import java.util.HashMap;
import java.util.HashSet;
import java.util.List;
import java.util.Map;
import java.util.Set;
import java.util.function.Function;
import javax.lang.model.element.Element;
import javax.lang.model.element.ElementKind;
import javax.lang.model.element.Modifier;
import javax.lang.model.type.TypeKind;

/** Whether a loop's end can be seen from its own lines: on every pass a counter goes on towards a bound that stays. */
final class LoopEnd extends TreeScanner<Void, Void> {
    private static final int UP = 1;
    private static final int DOWN = -1;
    private static final int ELSEWHERE = 0;

    private final Function<Tree, Element> elements;
    /** The ways that each variable is sent inside the loop. */
    private final Map<Element, Set<Integer>> ways = new HashMap<>();
    private boolean hasCall;
    private boolean hasContinue;

    LoopEnd(Function<Tree, Element> elements) {
        this.elements = elements;
    }

    boolean isSeen(ExpressionTree condition, List<? extends Tree> updates, StatementTree body) {
        scan(condition, null);
        scan(updates, null);
        scan(body, null);
        List<Tree> everyPass = new ArrayList<>(updates);
        // A continue would pass over what the body does at its end.
        if (!hasContinue) {
            everyPass.addAll(body instanceof BlockTree block ? block.getStatements() : List.of(body));
        }
        return conjuncts(condition).stream().anyMatch(part -> isCount(part, everyPass));
    }

    private static List<ExpressionTree> conjuncts(ExpressionTree condition) {
        if (condition instanceof ParenthesizedTree inside) {
            return conjuncts(inside.getExpression());
        }
        List<ExpressionTree> parts = new ArrayList<>();
        if (condition instanceof BinaryTree both && both.getKind() == Tree.Kind.CONDITIONAL_AND) {
            parts.addAll(conjuncts(both.getLeftOperand()));
            parts.addAll(conjuncts(both.getRightOperand()));
        } else if (condition != null) {
            parts.add(condition);
        }
        return parts;
    }

    private boolean isCount(ExpressionTree part, List<Tree> everyPass) {
        int way = switch (part.getKind()) {
            case LESS_THAN, LESS_THAN_EQUAL -> UP;
            case GREATER_THAN, GREATER_THAN_EQUAL -> DOWN;
            default -> ELSEWHERE;
        };
        if (way == ELSEWHERE || !(((BinaryTree) part).getLeftOperand() instanceof IdentifierTree left)) {
            return false;
        }
        Element counter = elements.apply(left);
        boolean local = counter.getKind() == ElementKind.LOCAL_VARIABLE || counter.getKind() == ElementKind.PARAMETER;
        return local && ways.getOrDefault(counter, Set.of()).equals(Set.of(way))
            && everyPass.stream().anyMatch(tree -> moves(tree, counter)) && stays(((BinaryTree) part).getRightOperand());
    }

    private boolean moves(Tree tree, Element counter) {
        Tree made = tree instanceof ExpressionStatementTree statement ? statement.getExpression() : tree;
        if (made instanceof UnaryTree unary) {
            return way(unary) != ELSEWHERE && counter.equals(elements.apply(unary.getExpression()));
        }
        return made instanceof CompoundAssignmentTree sum && counter.equals(elements.apply(sum.getVariable()));
    }

    /** Nothing that the bound is made of changes inside the loop. */
    private boolean stays(ExpressionTree bound) {
        boolean[] stays = {true};
        new TreeScanner<Void, Void>() {
            @Override
            public Void visitMethodInvocation(MethodInvocationTree tree, Void none) {
                stays[0] = false;
                return null;
            }

            @Override
            public Void visitIdentifier(IdentifierTree tree, Void none) {
                Element used = elements.apply(tree);
                boolean field = used.getKind() == ElementKind.FIELD;
                boolean fixed = used.getModifiers().contains(Modifier.FINAL) && used.asType().getKind() != TypeKind.ARRAY;
                stays[0] &= !ways.containsKey(used) && (!field || fixed || !hasCall);
                return null;
            }
        }.scan(bound, null);
        return stays[0];
    }

    private static int way(UnaryTree tree) {
        return switch (tree.getKind()) {
            case PREFIX_INCREMENT, POSTFIX_INCREMENT -> UP;
            case PREFIX_DECREMENT, POSTFIX_DECREMENT -> DOWN;
            default -> ELSEWHERE;
        };
    }

    private void sent(ExpressionTree target, int way) {
        ExpressionTree base = target;
        int baseWay = way;
        while (base instanceof ArrayAccessTree place) {
            base = place.getExpression();
            baseWay = ELSEWHERE;
        }
        ways.computeIfAbsent(elements.apply(base), e -> new HashSet<>()).add(baseWay);
    }

    @Override
    public Void visitUnary(UnaryTree tree, Void none) {
        if (way(tree) != ELSEWHERE) {
            sent(tree.getExpression(), way(tree));
        }
        return super.visitUnary(tree, none);
    }

    @Override
    public Void visitCompoundAssignment(CompoundAssignmentTree tree, Void none) {
        boolean positive = tree.getExpression() instanceof LiteralTree literal && literal.getValue() instanceof Integer step
            && step > 0;
        int way = ELSEWHERE;
        if (positive && tree.getKind() == Tree.Kind.PLUS_ASSIGNMENT) {
            way = UP;
        } else if (positive && tree.getKind() == Tree.Kind.MINUS_ASSIGNMENT) {
            way = DOWN;
        }
        sent(tree.getVariable(), way);
        return super.visitCompoundAssignment(tree, none);
    }

    @Override
    public Void visitAssignment(AssignmentTree tree, Void none) {
        sent(tree.getVariable(), ELSEWHERE);
        return super.visitAssignment(tree, none);
    }

    @Override
    public Void visitMethodInvocation(MethodInvocationTree tree, Void none) {
        hasCall = true;
        return super.visitMethodInvocation(tree, none);
    }

    @Override
    public Void visitContinue(ContinueTree tree, Void none) {
        hasContinue = true;
        return super.visitContinue(tree, none);
    }
}
