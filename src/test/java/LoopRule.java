import com.sun.source.tree.ArrayAccessTree;
import com.sun.source.tree.BinaryTree;
import com.sun.source.tree.ExpressionStatementTree;
import com.sun.source.tree.ExpressionTree;
import com.sun.source.tree.ForLoopTree;
import com.sun.source.tree.Tree;
import com.sun.source.tree.VariableTree;
import com.sun.source.util.TreeScanner;
import java.util.Set;
import java.util.function.UnaryOperator;

/** Whether the end of a for loop can be seen from its own lines. */
final class LoopRule {
    private LoopRule() {
    }

    /**
     * A counter that is declared in the loop goes up by one below a bound, or down by one above it, and neither the
     * counter nor a name in the bound is changed in the body, nor in the methods that the body calls.
     */
    static boolean endIsSeen(Tree tree, UnaryOperator<Set<String>> changesInCalls) {
        ForLoopTree loop = (ForLoopTree) tree;
        if (loop.getInitializer().size() != 1 || !(loop.getInitializer().get(0) instanceof VariableTree)
                || loop.getUpdate().size() != 1 || !(loop.getCondition() instanceof BinaryTree)) {
            return false;
        }
        String counter = ((VariableTree) loop.getInitializer().get(0)).getName().toString();
        BinaryTree condition = (BinaryTree) loop.getCondition();
        ExpressionTree bound = condition.getRightOperand();
        if (!condition.getLeftOperand().toString().equals(counter) || NamesIn.all(bound).contains(counter)
                || !NamesIn.calls(bound).isEmpty() || hasArrayAccess(bound)) {
            return false;
        }
        Set<String> changed = NamesIn.assigned(loop.getStatement());
        changed.addAll(changesInCalls.apply(NamesIn.calls(loop.getStatement())));
        changed.retainAll(NamesIn.all(bound));
        return changed.isEmpty() && !NamesIn.assigned(loop.getStatement()).contains(counter)
            && stepsTowards(condition.getKind(), loop.getUpdate().get(0), counter);
    }

    private static boolean stepsTowards(Tree.Kind comparison, ExpressionStatementTree update, String counter) {
        String step = update.getExpression().toString();
        switch (comparison) {
            case LESS_THAN: case LESS_THAN_EQUAL: return step.equals(counter + "++");
            case GREATER_THAN: case GREATER_THAN_EQUAL: return step.equals(counter + "--");
            default: return false;
        }
    }

    private static boolean hasArrayAccess(Tree tree) {
        return new TreeScanner<Boolean, Void>() {
            @Override
            public Boolean visitArrayAccess(ArrayAccessTree access, Void none) {
                return true;
            }

            @Override
            public Boolean reduce(Boolean first, Boolean second) {
                return first == Boolean.TRUE || second == Boolean.TRUE;
            }
        }.scan(tree, null) == Boolean.TRUE;
    }
}
