import com.sun.source.tree.AnnotationTree;
import com.sun.source.tree.ArrayTypeTree;
import com.sun.source.tree.BlockTree;
import com.sun.source.tree.ClassTree;
import com.sun.source.tree.CompilationUnitTree;
import com.sun.source.tree.ExpressionTree;
import com.sun.source.tree.IdentifierTree;
import com.sun.source.tree.MemberSelectTree;
import com.sun.source.tree.MethodInvocationTree;
import com.sun.source.tree.MethodTree;
import com.sun.source.tree.NewArrayTree;
import com.sun.source.tree.PrimitiveTypeTree;
import com.sun.source.tree.Tree;
import com.sun.source.tree.TypeCastTree;
import com.sun.source.tree.VariableTree;
import com.sun.source.util.JavacTask;
import com.sun.source.util.SourcePositions;
import com.sun.source.util.TreePathScanner;
import com.sun.source.util.TreeScanner;
import com.sun.source.util.Trees;
import java.io.IOException;
import java.net.URI;
import java.util.ArrayList;
import java.util.EnumSet;
import java.util.List;
import java.util.Map;
import java.util.Set;
import java.util.TreeMap;
import java.util.TreeSet;
import javax.lang.model.element.Modifier;
import javax.lang.model.type.TypeKind;
import javax.tools.JavaFileObject;
import javax.tools.SimpleJavaFileObject;
import javax.tools.ToolProvider;

/**
 * Looks through the text of a class for what LANGUAGE.md rules out, as far as that can be seen in the text. Where a
 * rule allows more than the class needs (arrays made in the constructor, loops other than for), the narrower rule is
 * kept to. Rule 7 is left to the tests that make calls, and rule 11 follows from rule 3.
 */
final class LanguageRules extends TreePathScanner<Void, Void> {
    private static final int MOST_PARAMETERS = 7;
    private static final int MOST_LINES = 60;
    private static final int MOST_CALLS_DEEP = 6;
    private static final int MOST_FIELDS = 40;

    private static final Set<Tree.Kind> RULED_OUT_BY_6 = EnumSet.of(Tree.Kind.THROW, Tree.Kind.TRY,
        Tree.Kind.SYNCHRONIZED, Tree.Kind.ASSERT, Tree.Kind.INSTANCE_OF, Tree.Kind.LAMBDA_EXPRESSION,
        Tree.Kind.MEMBER_REFERENCE);
    private static final Set<Tree.Kind> LITERALS_RULED_OUT = EnumSet.of(Tree.Kind.STRING_LITERAL,
        Tree.Kind.FLOAT_LITERAL, Tree.Kind.DOUBLE_LITERAL);
    private static final Set<Tree.Kind> LOOPS_NOT_NEEDED = EnumSet.of(Tree.Kind.WHILE_LOOP, Tree.Kind.DO_WHILE_LOOP,
        Tree.Kind.ENHANCED_FOR_LOOP);
    private static final Set<TypeKind> NUMBER_TYPES = EnumSet.of(TypeKind.INT, TypeKind.LONG, TypeKind.SHORT,
        TypeKind.BYTE, TypeKind.CHAR, TypeKind.BOOLEAN);

    private final List<String> found = new ArrayList<>();
    private final CompilationUnitTree unit;
    private final SourcePositions positions;
    private final Set<String> publicMethods = new TreeSet<>();
    private final Map<String, Set<String>> calledBy = new TreeMap<>();
    private final Map<String, Set<String>> assignedBy = new TreeMap<>();
    private final Set<String> constants = new TreeSet<>();
    private final Set<String> arrays = new TreeSet<>();

    private LanguageRules(CompilationUnitTree unit, SourcePositions positions) {
        this.unit = unit;
        this.positions = positions;
    }

    /** What is against the rules, each as "rule 4, line 12: ...". */
    static List<String> breachesIn(String text) throws IOException {
        JavaFileObject file = new SimpleJavaFileObject(URI.create("string:///SymbolicForms.java"),
                JavaFileObject.Kind.SOURCE) {
            @Override
            public CharSequence getCharContent(boolean ignoreEncodingErrors) {
                return text;
            }
        };
        JavacTask task = (JavacTask) ToolProvider.getSystemJavaCompiler()
            .getTask(null, null, null, null, null, List.of(file));
        CompilationUnitTree unit = task.parse().iterator().next();
        LanguageRules rules = new LanguageRules(unit, Trees.instance(task).getSourcePositions());
        rules.lookThrough();
        return rules.found;
    }

    private void lookThrough() {
        check(1, unit, unit.getPackage() == null, "a package line");
        check(3, unit, unit.getImports().isEmpty(), "an import");
        check(1, unit, unit.getTypeDecls().size() == 1, "not one class alone");
        collect();
        scan(unit, null);
        for (String method : calledBy.keySet()) {
            check(8, unit, !reachedFrom(method).contains(method), "recursion of " + method);
        }
        checkCallsDeep();
    }

    private void check(int rule, Tree where, boolean holds, String otherwise) {
        if (!holds) {
            long line = unit.getLineMap().getLineNumber(positions.getStartPosition(unit, where));
            found.add("rule " + rule + ", line " + line + ": " + otherwise);
        }
    }

    // What the rules about single places need to know of the whole class.
    private void collect() {
        new TreeScanner<Void, String>() {
            @Override
            public Void visitMethod(MethodTree method, String outer) {
                String name = method.getName().toString();
                calledBy.putIfAbsent(name, new TreeSet<>());
                assignedBy.computeIfAbsent(name, key -> new TreeSet<>()).addAll(NamesIn.assigned(method));
                if (method.getModifiers().getFlags().contains(Modifier.PUBLIC)) {
                    publicMethods.add(name);
                }
                return super.visitMethod(method, name);
            }

            @Override
            public Void visitMethodInvocation(MethodInvocationTree call, String method) {
                if (method != null) {
                    calledBy.get(method).add(call.getMethodSelect().toString());
                }
                return super.visitMethodInvocation(call, method);
            }

            @Override
            public Void visitVariable(VariableTree variable, String method) {
                if (variable.getModifiers().getFlags().contains(Modifier.STATIC)) {
                    constants.add(variable.getName().toString());
                }
                if (variable.getType() instanceof ArrayTypeTree) {
                    arrays.add(variable.getName().toString());
                }
                return super.visitVariable(variable, method);
            }
        }.scan(unit, null);
    }

    private Set<String> reachedFrom(String method) {
        Set<String> reached = new TreeSet<>(calledBy.getOrDefault(method, Set.of()));
        int before = -1;
        while (before != reached.size()) {
            before = reached.size();
            for (String one : List.copyOf(reached)) {
                reached.addAll(calledBy.getOrDefault(one, Set.of()));
            }
        }
        return reached;
    }

    private void checkCallsDeep() {
        Set<String> level = new TreeSet<>(publicMethods);
        for (int deep = 1; deep <= MOST_CALLS_DEEP; deep++) {
            Set<String> next = new TreeSet<>();
            level.forEach(method -> next.addAll(calledBy.getOrDefault(method, Set.of())));
            level = next;
        }
        check(10, unit, level.isEmpty(), "calls more than six deep, down to " + level);
    }

    @Override
    public Void scan(Tree tree, Void none) {
        if (tree != null) {
            Tree.Kind kind = tree.getKind();
            check(6, tree, !RULED_OUT_BY_6.contains(kind), "a " + kind);
            check(2, tree, !LITERALS_RULED_OUT.contains(kind), "a " + kind);
            check(4, tree, kind != Tree.Kind.NULL_LITERAL, "null");
            check(4, tree, kind != Tree.Kind.NEW_CLASS, "an object that is made");
            check(8, tree, !LOOPS_NOT_NEEDED.contains(kind), "a loop that is not a for with a counter");
            if (kind == Tree.Kind.FOR_LOOP) {
                check(8, tree, LoopRule.endIsSeen(tree, this::changesInCalls), "a for whose end is not seen");
            }
            if (kind == Tree.Kind.EQUAL_TO || kind == Tree.Kind.NOT_EQUAL_TO) {
                check(4, tree, NamesIn.operands(tree).stream().noneMatch(arrays::contains), "arrays compared");
            }
        }
        return super.scan(tree, none);
    }

    private Set<String> changesInCalls(Set<String> calls) {
        Set<String> changed = new TreeSet<>();
        for (String call : calls) {
            changed.addAll(assignedBy.getOrDefault(call, Set.of()));
            reachedFrom(call).forEach(method -> changed.addAll(assignedBy.getOrDefault(method, Set.of())));
        }
        return changed;
    }

    @Override
    public Void visitClass(ClassTree type, Void none) {
        check(1, type, getCurrentPath().getParentPath().getLeaf() == unit, "a class inside the class");
        Set<Modifier> flags = type.getModifiers().getFlags();
        check(1, type, type.getKind() == Tree.Kind.CLASS && flags.equals(EnumSet.of(Modifier.PUBLIC, Modifier.FINAL)),
            "not a public and final class");
        check(1, type, type.getExtendsClause() == null && type.getImplementsClause().isEmpty(), "a parent");
        int fields = 0;
        for (Tree member : type.getMembers()) {
            check(5, member, !(member instanceof BlockTree), "an initialiser block");
            if (member instanceof VariableTree) {
                VariableTree field = (VariableTree) member;
                fields += constants.contains(field.getName().toString()) ? 0 : 1;
                checkField(field);
            }
        }
        check(10, type, fields <= MOST_FIELDS, fields + " fields");
        return super.visitClass(type, none);
    }

    private void checkField(VariableTree field) {
        Set<Modifier> flags = field.getModifiers().getFlags();
        check(1, field, flags.contains(Modifier.PRIVATE), "a field that is not private: " + field.getName());
        if (flags.contains(Modifier.STATIC)) {
            boolean wholeNumber = isPrimitive(field.getType(), EnumSet.of(TypeKind.INT, TypeKind.LONG));
            check(5, field, flags.contains(Modifier.FINAL) && wholeNumber && field.getInitializer() != null
                && NamesIn.calls(field.getInitializer()).isEmpty(), "a static field that is no constant");
        }
    }

    @Override
    public Void visitMethod(MethodTree method, Void none) {
        String name = method.getName().toString();
        Set<Modifier> flags = method.getModifiers().getFlags();
        check(1, method, flags.contains(Modifier.PUBLIC) != flags.contains(Modifier.PRIVATE),
            name + " is neither public nor private");
        check(1, method, flags.contains(Modifier.PUBLIC) || !publicMethods.contains(name),
            name + " is private and has a public name");
        check(6, method, !flags.contains(Modifier.SYNCHRONIZED), name + " is synchronized");
        check(6, method, method.getThrows().isEmpty(), name + " throws");
        check(4, method, !(method.getReturnType() instanceof ArrayTypeTree), name + " answers an array");
        Tree answer = method.getReturnType();
        check(2, method, answer == null || isPrimitive(answer, EnumSet.of(TypeKind.VOID)) || isAllowed(answer),
            name + " answers a type that is ruled out");
        check(10, method, method.getParameters().size() <= MOST_PARAMETERS, name + " has too many parameters");
        long first = unit.getLineMap().getLineNumber(positions.getStartPosition(unit, method));
        long last = unit.getLineMap().getLineNumber(positions.getEndPosition(unit, method));
        check(10, method, last - first < MOST_LINES, name + " is too long");
        checkAssignments(method);
        return super.visitMethod(method, none);
    }

    private void checkAssignments(MethodTree method) {
        for (String name : NamesIn.assigned(method)) {
            check(4, method, !arrays.contains(name), method.getName() + " assigns to the array " + name);
        }
    }

    @Override
    public Void visitVariable(VariableTree variable, Void none) {
        check(2, variable, isAllowed(variable.getType()), "a type that is ruled out: " + variable);
        return super.visitVariable(variable, none);
    }

    private static boolean isAllowed(Tree type) {
        Tree held = type instanceof ArrayTypeTree ? ((ArrayTypeTree) type).getType() : type;
        return isPrimitive(held, NUMBER_TYPES);
    }

    private static boolean isPrimitive(Tree type, Set<TypeKind> kinds) {
        return type instanceof PrimitiveTypeTree && kinds.contains(((PrimitiveTypeTree) type).getPrimitiveTypeKind());
    }

    @Override
    public Void visitNewArray(NewArrayTree made, Void none) {
        Tree parent = getCurrentPath().getParentPath().getLeaf();
        Tree place = getCurrentPath().getParentPath().getParentPath().getLeaf();
        check(4, made, parent instanceof VariableTree && place instanceof ClassTree,
            "an array that is not made in a field's initialiser");
        check(4, made, made.getInitializers() == null && made.getDimensions().size() == 1,
            "an array without a length, or with more than one");
        for (ExpressionTree length : made.getDimensions()) {
            boolean literal = length.getKind() == Tree.Kind.INT_LITERAL && !length.toString().equals("0");
            check(4, made, literal || constants.contains(length.toString()), "the length " + length);
        }
        return super.visitNewArray(made, none);
    }

    @Override
    public Void visitTypeCast(TypeCastTree cast, Void none) {
        check(6, cast, isPrimitive(cast.getType(), NUMBER_TYPES), "a cast to " + cast.getType());
        return super.visitTypeCast(cast, none);
    }

    @Override
    public Void visitMemberSelect(MemberSelectTree select, Void none) {
        String owner = select.getExpression().toString();
        boolean length = select.getIdentifier().contentEquals("length") && arrays.contains(owner);
        check(3, select, length || owner.equals("this"), "something of another class: " + select);
        return super.visitMemberSelect(select, none);
    }

    @Override
    public Void visitMethodInvocation(MethodInvocationTree call, Void none) {
        boolean own = call.getMethodSelect() instanceof IdentifierTree
            && calledBy.containsKey(call.getMethodSelect().toString());
        check(3, call, own, "a call that is not of this class: " + call);
        for (ExpressionTree argument : call.getArguments()) {
            check(10, call, NamesIn.calls(argument).isEmpty(), "a call inside the arguments of another: " + call);
        }
        return super.visitMethodInvocation(call, none);
    }

    @Override
    public Void visitAnnotation(AnnotationTree annotation, Void none) {
        check(3, annotation, false, "an annotation, which is a class of the library: " + annotation);
        return super.visitAnnotation(annotation, none);
    }
}
