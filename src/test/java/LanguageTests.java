import com.sun.source.tree.AssertTree;
import com.sun.source.tree.BinaryTree;
import com.sun.source.tree.ClassTree;
import com.sun.source.tree.CompilationUnitTree;
import com.sun.source.tree.CompoundAssignmentTree;
import com.sun.source.tree.DoWhileLoopTree;
import com.sun.source.tree.ForLoopTree;
import com.sun.source.tree.LambdaExpressionTree;
import com.sun.source.tree.LiteralTree;
import com.sun.source.tree.MemberReferenceTree;
import com.sun.source.tree.MethodInvocationTree;
import com.sun.source.tree.MethodTree;
import com.sun.source.tree.NewArrayTree;
import com.sun.source.tree.NewClassTree;
import com.sun.source.tree.SynchronizedTree;
import com.sun.source.tree.ThrowTree;
import com.sun.source.tree.Tree;
import com.sun.source.tree.TryTree;
import com.sun.source.tree.TypeCastTree;
import com.sun.source.tree.VariableTree;
import com.sun.source.tree.WhileLoopTree;
import com.sun.source.util.JavacTask;
import com.sun.source.util.TreePath;
import com.sun.source.util.TreePathScanner;
import com.sun.source.util.Trees;
import java.io.IOException;
import java.nio.file.Path;
import java.util.ArrayList;
import java.util.LinkedHashMap;
import java.util.LinkedHashSet;
import java.util.List;
import java.util.Map;
import java.util.Set;
import javax.lang.model.element.Element;
import javax.lang.model.element.ElementKind;
import javax.lang.model.element.ExecutableElement;
import javax.lang.model.element.Modifier;
import javax.lang.model.element.VariableElement;
import javax.lang.model.type.ArrayType;
import javax.lang.model.type.DeclaredType;
import javax.lang.model.type.TypeKind;
import javax.lang.model.type.TypeMirror;
import javax.tools.JavaCompiler;
import javax.tools.StandardJavaFileManager;
import javax.tools.ToolProvider;

/** The rules of LANGUAGE.md that the compiler's own tree of the source tells, each with its number. */
public final class LanguageTests extends TreePathScanner<Void, Void> {
    private static final Path SOURCE = Path.of("src/main/java/ThirdLetter.java");
    private static final int MOST_DEEP = 8;
    private static final int MOST_LINES = 60;
    private static final int MOST_PARAMETERS = 7;
    private static final int MOST_CLASSES = 12;
    private static final int MOST_FIELDS = 20;
    private static final Map<String, Set<String>> LIBRARY = Map.of(
        "java.lang.Object", Set.of("<init>"),
        "java.lang.String", Set.of("length", "charAt", "isEmpty", "equals", "indexOf", "substring", "toCharArray"),
        "java.lang.System", Set.of("arraycopy"),
        "java.util.Arrays", Set.of("copyOf", "copyOfRange", "fill"));
    private static final Set<String> FUNCTIONS = Set.of("java.lang.Integer", "java.lang.Long", "java.lang.Math");
    private static final Set<TypeKind> NUMBERS = Set.of(TypeKind.INT, TypeKind.LONG, TypeKind.SHORT, TypeKind.BYTE,
        TypeKind.CHAR, TypeKind.BOOLEAN);

    private static final Checks checks = new Checks("language");

    private final Trees trees;
    private final CompilationUnitTree unit;
    private final Map<Element, Set<Element>> calls = new LinkedHashMap<>();
    private int classes;
    private int loops;
    private int made;

    private LanguageTests(Trees trees, CompilationUnitTree unit) {
        this.trees = trees;
        this.unit = unit;
    }

    public static void main(String[] args) throws IOException {
        JavaCompiler compiler = ToolProvider.getSystemJavaCompiler();
        try (StandardJavaFileManager files = compiler.getStandardFileManager(null, null, null)) {
            JavacTask task = (JavacTask) compiler.getTask(null, files, null, List.of("--release", "17"), null,
                files.getJavaFileObjects(SOURCE));
            CompilationUnitTree unit = task.parse().iterator().next();
            task.analyze();
            new LanguageTests(Trees.instance(task), unit).look();
        }
        checks.end();
    }

    private void look() {
        scan(unit, null);
        checks.about("rule 11: classes");
        checks.holds(classes + " classes", classes <= MOST_CLASSES);
        checks.about("what the tests found");
        checks.holds(calls.size() + " methods", calls.size() > 100);
        checks.holds(loops + " loops", loops > 30);
        checks.holds(made + " things made", made > 20);
        for (Element method : calls.keySet()) {
            checks.about("rule 8: recursion");
            boolean mayCallItself = has(method, Modifier.PRIVATE) && has(method, Modifier.STATIC);
            checks.holds(name(method) + " does not call itself, or may", mayCallItself || !calls(method, method));
            checks.holds(name(method) + " is not called by what it calls", !comesBack(method));
        }
        for (Element method : calls.keySet()) {
            checks.about("rule 11: calls at most eight deep");
            List<String> chain = deepest(method, new LinkedHashSet<>());
            checks.holds(String.join(" > ", chain), chain.size() <= MOST_DEEP);
        }
    }

    private static boolean has(Element element, Modifier modifier) {
        return element.getModifiers().contains(modifier);
    }

    private static String name(Element method) {
        return method.getEnclosingElement().getSimpleName() + "." + method.getSimpleName();
    }

    private boolean calls(Element method, Element other) {
        return calls.getOrDefault(method, Set.of()).contains(other);
    }

    private boolean comesBack(Element method) {
        Set<Element> reached = new LinkedHashSet<>();
        List<Element> next = new ArrayList<>(calls.get(method));
        next.remove(method);
        for (int i = 0; i < next.size(); i++) {
            if (!reached.add(next.get(i))) continue;
            next.addAll(calls.getOrDefault(next.get(i), Set.of()));
        }
        return reached.contains(method);
    }

    /** The longest chain of calls that begins with a method, itself and those of the library counted too. */
    private List<String> deepest(Element method, Set<Element> open) {
        List<String> longest = List.of();
        if (!open.add(method)) return longest;
        for (Element next : calls.getOrDefault(method, Set.of())) {
            List<String> chain = deepest(next, open);
            if (chain.size() > longest.size()) longest = chain;
        }
        open.remove(method);
        List<String> whole = new ArrayList<>(List.of(name(method)));
        whole.addAll(longest);
        return whole;
    }

    private String where(Tree tree) {
        long place = trees.getSourcePositions().getStartPosition(unit, tree);
        return "line " + unit.getLineMap().getLineNumber(place);
    }

    private long lines(Tree tree) {
        long from = trees.getSourcePositions().getStartPosition(unit, tree);
        long to = trees.getSourcePositions().getEndPosition(unit, tree);
        return unit.getLineMap().getLineNumber(to) - unit.getLineMap().getLineNumber(from) + 1;
    }

    private void never(String rule, Tree tree) {
        checks.about(rule);
        checks.holds(where(tree) + " has none of these", false);
    }

    private TypeMirror typeOf(Tree tree) {
        return trees.getTypeMirror(new TreePath(getCurrentPath(), tree));
    }

    private boolean isOwn(Element element) {
        Element outer = element;
        while (outer.getEnclosingElement() != null && outer.getEnclosingElement().getKind() != ElementKind.PACKAGE) {
            outer = outer.getEnclosingElement();
        }
        return outer.getSimpleName().contentEquals("ThirdLetter");
    }

    private static boolean isNamed(TypeMirror type, String name) {
        return type instanceof DeclaredType && type.toString().equals(name);
    }

    private boolean isAllowed(TypeMirror type) {
        if (NUMBERS.contains(type.getKind())) return true;
        if (type instanceof ArrayType array) return isAllowedInArray(array.getComponentType());
        if (type instanceof DeclaredType own && isOwn(own.asElement())) return true;
        return isNamed(type, "java.lang.String");
    }

    private boolean isAllowedInArray(TypeMirror type) {
        if (type instanceof ArrayType array) return NUMBERS.contains(array.getComponentType().getKind());
        return NUMBERS.contains(type.getKind()) || type instanceof DeclaredType own && isOwn(own.asElement());
    }

    /** The method or constructor in which a tree stands; what makes a field belongs to the constructor. */
    private Element enclosingMethod() {
        for (Tree tree : getCurrentPath()) {
            if (tree instanceof MethodTree) return trees.getElement(TreePath.getPath(unit, tree));
            if (tree instanceof ClassTree) return constructorOf(trees.getElement(TreePath.getPath(unit, tree)));
        }
        return null;
    }

    private static Element constructorOf(Element type) {
        for (Element part : type.getEnclosedElements()) {
            if (part.getKind() == ElementKind.CONSTRUCTOR) return part;
        }
        return type;
    }

    private void call(Tree tree, Element called) {
        Element caller = enclosingMethod();
        calls.computeIfAbsent(caller, c -> new LinkedHashSet<>()).add(called);
        if (caller.getKind() == ElementKind.CONSTRUCTOR) {
            checks.about("rule 12: a constructor calls no method");
            checks.holds(where(tree), called.getKind() == ElementKind.CONSTRUCTOR);
        }
        if (isOwn(called)) return;
        checks.about("rule 4: the library");
        String type = called.getEnclosingElement().toString();
        String method = called.getSimpleName().toString();
        boolean listed = LIBRARY.getOrDefault(type, Set.of()).contains(method);
        checks.holds(where(tree) + ": " + type + "." + method, listed || isFunction(type, (ExecutableElement) called));
    }

    private static boolean isFunction(String type, ExecutableElement called) {
        if (!FUNCTIONS.contains(type) || !has(called, Modifier.STATIC)) return false;
        if (called.getSimpleName().toString().endsWith("Exact")) return false;
        for (VariableElement part : called.getParameters()) {
            if (!Set.of(TypeKind.INT, TypeKind.LONG).contains(part.asType().getKind())) return false;
        }
        return true;
    }

    @Override
    public Void visitClass(ClassTree tree, Void nothing) {
        classes++;
        checks.about("rule 2: classes inside");
        Element type = trees.getElement(getCurrentPath());
        Tree around = getCurrentPath().getParentPath().getLeaf();
        boolean outer = around instanceof CompilationUnitTree;
        boolean inside = around instanceof ClassTree && has(type, Modifier.STATIC) && !has(type, Modifier.PUBLIC);
        checks.holds(type + " is the class itself or a static one inside it", outer || inside);
        checks.about("rule 11: fields");
        long fields = type.getEnclosedElements().stream().filter(e -> e.getKind() == ElementKind.FIELD)
            .filter(e -> !has(e, Modifier.STATIC)).count();
        checks.holds(type + " has " + fields, fields <= MOST_FIELDS);
        checks.about("rule 5: no static initialiser");
        for (Tree member : tree.getMembers()) {
            checks.holds(where(member), member.getKind() != Tree.Kind.BLOCK);
        }
        return super.visitClass(tree, nothing);
    }

    @Override
    public Void visitMethod(MethodTree tree, Void nothing) {
        Element method = trees.getElement(getCurrentPath());
        calls.computeIfAbsent(method, c -> new LinkedHashSet<>());
        checks.about("rule 11: methods");
        checks.holds(name(method) + " has seven parameters at most", tree.getParameters().size() <= MOST_PARAMETERS);
        checks.holds(name(method) + " has " + lines(tree) + " lines", lines(tree) <= MOST_LINES);
        if (tree.getReturnType() != null) {
            checks.about("rule 3: types");
            TypeMirror type = typeOf(tree.getReturnType());
            checks.holds(name(method) + " answers " + type, type.getKind() == TypeKind.VOID || isAllowed(type));
        }
        return super.visitMethod(tree, nothing);
    }

    @Override
    public Void visitVariable(VariableTree tree, Void nothing) {
        Element variable = trees.getElement(getCurrentPath());
        checks.about("rule 3: types");
        checks.holds(where(tree) + ": " + variable.asType(), isAllowed(variable.asType()));
        if (has(variable, Modifier.STATIC)) {
            checks.about("rule 5: static fields are constants");
            boolean constant = variable instanceof VariableElement field && field.getConstantValue() != null;
            checks.holds(where(tree) + ": " + variable, has(variable, Modifier.FINAL) && constant);
        }
        return super.visitVariable(tree, nothing);
    }

    @Override
    public Void visitMethodInvocation(MethodInvocationTree tree, Void nothing) {
        call(tree, trees.getElement(getCurrentPath()));
        return super.visitMethodInvocation(tree, nothing);
    }

    @Override
    public Void visitNewClass(NewClassTree tree, Void nothing) {
        call(tree, trees.getElement(getCurrentPath()));
        checks.about("rule 2: no class without a name");
        checks.holds(where(tree), tree.getClassBody() == null);
        madeWithItsObject(tree);
        return super.visitNewClass(tree, nothing);
    }

    @Override
    public Void visitNewArray(NewArrayTree tree, Void nothing) {
        madeWithItsObject(tree);
        return super.visitNewArray(tree, nothing);
    }

    /** All calls of a run live in one room: rows are made with their object, never by a call. */
    private void madeWithItsObject(Tree tree) {
        made++;
        checks.about("rule 12: no call makes an object");
        TreePath around = getCurrentPath().getParentPath();
        Tree holder = around.getParentPath().getLeaf();
        checks.holds(where(tree), around.getLeaf() instanceof VariableTree && holder instanceof ClassTree);
    }

    @Override
    public Void visitForLoop(ForLoopTree tree, Void nothing) {
        endIsSeen(tree, tree.getCondition());
        checks.holds(where(tree) + " has a counter", tree.getUpdate().size() == 1);
        return super.visitForLoop(tree, nothing);
    }

    @Override
    public Void visitWhileLoop(WhileLoopTree tree, Void nothing) {
        endIsSeen(tree, tree.getCondition());
        return super.visitWhileLoop(tree, nothing);
    }

    @Override
    public Void visitDoWhileLoop(DoWhileLoopTree tree, Void nothing) {
        endIsSeen(tree, tree.getCondition());
        return super.visitDoWhileLoop(tree, nothing);
    }

    private void endIsSeen(Tree tree, Tree condition) {
        loops++;
        checks.about("rule 9: every loop has an end that can be seen");
        checks.holds(where(tree) + " has a bound", condition != null && condition.toString().matches(".*(<|>).*"));
    }

    @Override
    public Void visitBinary(BinaryTree tree, Void nothing) {
        boolean texts = isNamed(typeOf(tree.getLeftOperand()), "java.lang.String")
            || isNamed(typeOf(tree.getRightOperand()), "java.lang.String");
        checks.about("rules 6, 10: no operator joins or compares texts");
        checks.holds(where(tree), !texts);
        return super.visitBinary(tree, nothing);
    }

    @Override
    public Void visitCompoundAssignment(CompoundAssignmentTree tree, Void nothing) {
        checks.about("rule 10: texts are not joined by +=");
        checks.holds(where(tree), !isNamed(typeOf(tree.getVariable()), "java.lang.String"));
        return super.visitCompoundAssignment(tree, nothing);
    }

    @Override
    public Void visitLiteral(LiteralTree tree, Void nothing) {
        if (tree.getValue() instanceof String text) {
            checks.about("rule 4: signs of texts are 1 to 127");
            checks.holds(where(tree), text.chars().allMatch(c -> c >= 1 && c <= 127));
        }
        return super.visitLiteral(tree, nothing);
    }

    @Override
    public Void visitTypeCast(TypeCastTree tree, Void nothing) {
        checks.about("rule 7: only numbers are cast");
        checks.holds(where(tree), NUMBERS.contains(typeOf(tree.getType()).getKind()));
        return super.visitTypeCast(tree, nothing);
    }

    @Override
    public Void visitLambdaExpression(LambdaExpressionTree tree, Void nothing) {
        never("rule 2: no lambda", tree);
        return null;
    }

    @Override
    public Void visitMemberReference(MemberReferenceTree tree, Void nothing) {
        never("rule 2: no method reference", tree);
        return null;
    }

    @Override
    public Void visitThrow(ThrowTree tree, Void nothing) {
        never("rule 6: no throw", tree);
        return null;
    }

    @Override
    public Void visitTry(TryTree tree, Void nothing) {
        never("rule 6: no try", tree);
        return null;
    }

    @Override
    public Void visitAssert(AssertTree tree, Void nothing) {
        never("rule 6: no assert", tree);
        return null;
    }

    @Override
    public Void visitSynchronized(SynchronizedTree tree, Void nothing) {
        never("rule 6: no synchronized", tree);
        return null;
    }
}
