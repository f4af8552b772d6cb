import com.sun.source.tree.AssignmentTree;
import com.sun.source.tree.BinaryTree;
import com.sun.source.tree.CompoundAssignmentTree;
import com.sun.source.tree.IdentifierTree;
import com.sun.source.tree.MethodInvocationTree;
import com.sun.source.tree.Tree;
import com.sun.source.tree.UnaryTree;
import com.sun.source.util.TreeScanner;
import java.util.List;
import java.util.Set;
import java.util.TreeSet;

/** The names in a piece of a program. */
final class NamesIn {
    private NamesIn() {
    }

    static List<String> operands(Tree comparison) {
        BinaryTree binary = (BinaryTree) comparison;
        return List.of(binary.getLeftOperand().toString(), binary.getRightOperand().toString());
    }

    static Set<String> all(Tree tree) {
        Set<String> names = new TreeSet<>();
        new TreeScanner<Void, Void>() {
            @Override
            public Void visitIdentifier(IdentifierTree name, Void none) {
                names.add(name.getName().toString());
                return null;
            }
        }.scan(tree, null);
        return names;
    }

    static Set<String> calls(Tree tree) {
        Set<String> names = new TreeSet<>();
        new TreeScanner<Void, Void>() {
            @Override
            public Void visitMethodInvocation(MethodInvocationTree call, Void none) {
                names.add(call.getMethodSelect().toString());
                return super.visitMethodInvocation(call, none);
            }
        }.scan(tree, null);
        return names;
    }

    /** The names that get another value; a cell of an array is none of them. */
    static Set<String> assigned(Tree tree) {
        Set<String> names = new TreeSet<>();
        new TreeScanner<Void, Void>() {
            private void add(Tree target) {
                names.add(target.toString().replace("this.", ""));
            }

            @Override
            public Void visitAssignment(AssignmentTree assignment, Void none) {
                add(assignment.getVariable());
                return super.visitAssignment(assignment, none);
            }

            @Override
            public Void visitCompoundAssignment(CompoundAssignmentTree assignment, Void none) {
                add(assignment.getVariable());
                return super.visitCompoundAssignment(assignment, none);
            }

            @Override
            public Void visitUnary(UnaryTree unary, Void none) {
                Tree.Kind kind = unary.getKind();
                if (kind == Tree.Kind.POSTFIX_INCREMENT || kind == Tree.Kind.POSTFIX_DECREMENT
                        || kind == Tree.Kind.PREFIX_INCREMENT || kind == Tree.Kind.PREFIX_DECREMENT) {
                    add(unary.getExpression());
                }
                return super.visitUnary(unary, none);
            }
        }.scan(tree, null);
        return names;
    }
}
