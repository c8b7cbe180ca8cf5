import com.sun.source.tree.BinaryTree;
import com.sun.source.tree.CatchTree;
import com.sun.source.tree.ClassTree;
import com.sun.source.tree.CompilationUnitTree;
import com.sun.source.tree.CompoundAssignmentTree;
import com.sun.source.tree.ExpressionTree;
import com.sun.source.tree.MethodInvocationTree;
import com.sun.source.tree.MethodTree;
import com.sun.source.tree.NewClassTree;
import com.sun.source.tree.ThrowTree;
import com.sun.source.tree.Tree;
import com.sun.source.tree.TryTree;
import com.sun.source.tree.TypeCastTree;
import com.sun.source.tree.VariableTree;
import com.sun.source.util.JavacTask;
import com.sun.source.util.TreePath;
import com.sun.source.util.TreePathScanner;
import com.sun.source.util.Trees;
import java.io.File;
import java.io.IOException;
import java.util.Arrays;
import java.util.EnumSet;
import java.util.HashSet;
import java.util.LinkedHashSet;
import java.util.Map;
import java.util.Set;
import java.util.TreeMap;
import javax.lang.model.element.Element;
import javax.lang.model.element.ElementKind;
import javax.lang.model.element.ExecutableElement;
import javax.lang.model.element.Modifier;
import javax.lang.model.element.TypeElement;
import javax.lang.model.type.TypeKind;
import javax.lang.model.type.TypeMirror;
import javax.tools.JavaCompiler;
import javax.tools.StandardJavaFileManager;
import javax.tools.ToolProvider;

/** The rules of LANGUAGE.md as the compiler reads the program: types, library calls, throws, recursion, depth of calls. */
public final class RulesTest extends TreePathScanner<Void, Void> {
    private static final Check CHECK = new Check();
    private static final int DEEPEST = 8;
    private static final int LONGEST = 60;
    private static final String OWN = "DayOpeners";
    private static final Set<String> THROWN = names("IllegalStateException IllegalArgumentException "
        + "IndexOutOfBoundsException ArithmeticException UnsupportedOperationException NoSuchElementException RuntimeException");
    private static final Set<String> TYPES = names("int long short byte char boolean double float void String StringBuilder "
        + "Integer ArrayList List Iterator Iterable");
    private static final Set<String> ROWS = names("int long short byte char boolean double float");
    private static final Set<String> CONSTANTS = names("int long boolean char String int[] long[] char[] byte[]");
    private static final Set<String> CALLS = names("String.length String.charAt String.isEmpty String.equals String.indexOf "
        + "String.substring String.toCharArray StringBuilder.append StringBuilder.charAt StringBuilder.setCharAt "
        + "StringBuilder.setLength StringBuilder.deleteCharAt StringBuilder.reverse StringBuilder.length "
        + "StringBuilder.toString ArrayList.add ArrayList.get ArrayList.set ArrayList.remove ArrayList.size "
        + "ArrayList.isEmpty ArrayList.clear List.add List.get List.set List.remove List.size List.isEmpty List.clear List.of "
        + "System.arraycopy Arrays.copyOf Arrays.copyOfRange Arrays.fill Object.<init>");
    private static final Set<Tree.Kind> NONE_OF = EnumSet.of(Tree.Kind.LAMBDA_EXPRESSION, Tree.Kind.MEMBER_REFERENCE,
        Tree.Kind.SYNCHRONIZED, Tree.Kind.ASSERT, Tree.Kind.ANNOTATION, Tree.Kind.SWITCH_EXPRESSION, Tree.Kind.YIELD,
        Tree.Kind.UNION_TYPE);

    private final Trees trees;
    private final CompilationUnitTree unit;
    private final Map<String, Set<String>> calls = new TreeMap<>();
    private final Map<String, Set<Modifier>> modifiers = new TreeMap<>();
    private int classes;
    private String method = "";

    private RulesTest(Trees trees, CompilationUnitTree unit) {
        this.trees = trees;
        this.unit = unit;
    }

    private static Set<String> names(String row) {
        return new HashSet<>(Arrays.asList(row.split(" ")));
    }

    private static void holds(String what, boolean so) {
        CHECK.due(what, so, true);
    }

    private long lineOf(long at) {
        return unit.getLineMap().getLineNumber(at);
    }

    private String where(Tree tree) {
        return "line " + lineOf(trees.getSourcePositions().getStartPosition(unit, tree)) + ": ";
    }

    private TypeMirror typeOf(Tree tree) {
        return trees.getTypeMirror(new TreePath(getCurrentPath(), tree));
    }

    private static String simple(TypeMirror type) {
        String name = type.toString();
        int generic = name.indexOf('<');
        name = generic < 0 ? name : name.substring(0, generic);
        return name.startsWith(OWN) ? OWN : name.substring(name.lastIndexOf('.') + 1);
    }

    private static boolean isAllowed(TypeMirror type) {
        String name = simple(type);
        boolean own = type.toString().startsWith(OWN);
        int row = name.indexOf("[]");
        if (own || row < 0) {
            return own ? !type.toString().contains("[][]") : TYPES.contains(name);
        }
        return ROWS.contains(name.substring(0, row)) && name.length() - row <= 4;
    }

    @Override
    public Void scan(Tree tree, Void none) {
        if (tree != null) {
            holds((tree.getKind() + " stands in the program"), !NONE_OF.contains(tree.getKind()));
        }
        return super.scan(tree, none);
    }

    @Override
    public Void visitClass(ClassTree tree, Void none) {
        TypeElement type = (TypeElement) trees.getElement(getCurrentPath());
        classes++;
        if (type.getEnclosingElement().getKind() != ElementKind.PACKAGE) {
            Set<Modifier> bears = type.getModifiers();
            holds(where(tree) + type + " is static and not seen outside", bears.contains(Modifier.STATIC)
                && !bears.contains(Modifier.PUBLIC) && !bears.contains(Modifier.PROTECTED));
        }
        int fields = 0;
        for (Tree member : tree.getMembers()) {
            boolean still = member instanceof VariableTree
                && ((VariableTree) member).getModifiers().getFlags().contains(Modifier.STATIC);
            fields += member instanceof VariableTree && !still ? 1 : 0;
            holds(where(member) + "no initialiser block", member.getKind() != Tree.Kind.BLOCK);
            if (still) {
                VariableTree constant = (VariableTree) member;
                holds(where(member) + constant.getName() + " is final",
                    constant.getModifiers().getFlags().contains(Modifier.FINAL));
                holds(where(member) + constant.getName() + " is of a type that constants have",
                    CONSTANTS.contains(simple(typeOf(member))));
            }
        }
        holds(type + " has some twenty fields at most, it has " + fields, fields <= 20);
        return super.visitClass(tree, none);
    }

    @Override
    public Void visitMethod(MethodTree tree, Void none) {
        ExecutableElement element = (ExecutableElement) trees.getElement(getCurrentPath());
        String outer = method;
        method = nameOf(element);
        calls.computeIfAbsent(method, key -> new LinkedHashSet<>());
        modifiers.put(method, element.getModifiers());
        long begins = lineOf(Math.max(0, trees.getSourcePositions().getStartPosition(unit, tree)));
        long ends = lineOf(Math.max(0, trees.getSourcePositions().getEndPosition(unit, tree)));
        holds(method + " has some sixty lines at most", ends - begins <= LONGEST);
        holds(method + " takes seven at most", tree.getParameters().size() <= 7);
        holds(method + " answers what it may", isAllowed(element.getReturnType()));
        super.visitMethod(tree, none);
        method = outer;
        return null;
    }

    @Override
    public Void visitVariable(VariableTree tree, Void none) {
        TypeMirror type = trees.getElement(getCurrentPath()).asType();
        holds(where(tree) + tree.getName() + " is of a type that may be: " + type,
            isAllowed(type) || THROWN.contains(simple(type)));
        return super.visitVariable(tree, none);
    }

    private static String nameOf(ExecutableElement element) {
        Element type = element.getEnclosingElement();
        String name = type.toString().startsWith(OWN) ? type.toString() : type.getSimpleName().toString();
        return name + "." + element.getSimpleName();
    }

    private static boolean isNumberFunction(String name, ExecutableElement element) {
        boolean of = name.startsWith("Math.") || name.startsWith("Integer.") || name.startsWith("Long.");
        boolean whole = !name.endsWith("Exact") && element.getModifiers().contains(Modifier.STATIC);
        for (Element parameter : element.getParameters()) {
            TypeKind kind = parameter.asType().getKind();
            whole &= kind == TypeKind.INT || kind == TypeKind.LONG;
        }
        return of && whole;
    }

    private void called(ExecutableElement element, Tree tree) {
        String name = nameOf(element);
        calls.computeIfAbsent(method, key -> new LinkedHashSet<>()).add(name);
        boolean own = name.startsWith(OWN + ".");
        boolean thrown = name.endsWith(".<init>") && THROWN.contains(name.substring(0, name.indexOf('.')));
        holds(where(tree) + name + " is a call that may be", own || thrown || CALLS.contains(name)
            || isNumberFunction(name, element) || name.equals("StringBuilder.<init>") || name.equals("ArrayList.<init>"));
    }

    @Override
    public Void visitMethodInvocation(MethodInvocationTree tree, Void none) {
        called((ExecutableElement) trees.getElement(getCurrentPath()), tree);
        return super.visitMethodInvocation(tree, none);
    }

    @Override
    public Void visitNewClass(NewClassTree tree, Void none) {
        called((ExecutableElement) trees.getElement(getCurrentPath()), tree);
        boolean making = method.endsWith(".<init>") || method.isEmpty();
        boolean thrown = getCurrentPath().getParentPath().getLeaf().getKind() == Tree.Kind.THROW;
        holds(where(tree) + "objects are made in constructors alone", making || thrown);
        return super.visitNewClass(tree, none);
    }

    @Override
    public Void visitThrow(ThrowTree tree, Void none) {
        ExpressionTree what = tree.getExpression();
        holds(where(tree) + "what is thrown is new", what.getKind() == Tree.Kind.NEW_CLASS);
        holds(where(tree) + what + " may be thrown", THROWN.contains(simple(typeOf(what))));
        CHECK.due(where(tree) + "only trade() throws, it is " + method, method.equals(OWN + ".trade"), true);
        return super.visitThrow(tree, none);
    }

    @Override
    public Void visitTry(TryTree tree, Void none) {
        holds(where(tree) + "no finally, no resources", tree.getFinallyBlock() == null && tree.getResources().isEmpty());
        return super.visitTry(tree, none);
    }

    @Override
    public Void visitCatch(CatchTree tree, Void none) {
        holds(where(tree) + "what is caught is no machine's", THROWN.contains(simple(typeOf(tree.getParameter()))));
        return super.visitCatch(tree, none);
    }

    @Override
    public Void visitTypeCast(TypeCastTree tree, Void none) {
        holds(where(tree) + "casts are between numbers", typeOf(tree.getType()).getKind().isPrimitive());
        return super.visitTypeCast(tree, none);
    }

    @Override
    public Void visitBinary(BinaryTree tree, Void none) {
        boolean joins = tree.getKind() == Tree.Kind.PLUS && simple(typeOf(tree)).equals("String");
        holds(where(tree) + "texts are not joined by +", !joins);
        boolean compares = tree.getKind() == Tree.Kind.EQUAL_TO || tree.getKind() == Tree.Kind.NOT_EQUAL_TO;
        String left = simple(typeOf(tree.getLeftOperand()));
        holds(where(tree) + "no == of texts", !compares || !left.equals("String") && !left.equals("Integer"));
        return super.visitBinary(tree, none);
    }

    @Override
    public Void visitCompoundAssignment(CompoundAssignmentTree tree, Void none) {
        holds(where(tree) + "texts are not joined by +=", !simple(typeOf(tree)).equals("String"));
        return super.visitCompoundAssignment(tree, none);
    }

    /** Rule 8: who calls itself is private and static; no methods call one another in a ring. */
    private void recursion() {
        for (String name : calls.keySet()) {
            boolean itself = calls.get(name).contains(name);
            Set<Modifier> bears = modifiers.getOrDefault(name, new HashSet<>());
            boolean fits = bears.contains(Modifier.PRIVATE) && bears.contains(Modifier.STATIC);
            holds(name + " is private and static, for it calls itself", !itself || fits);
        }
    }

    /** Rule 11: how many calls stand open at most, this one with, a recursion as one; library calls count, too. */
    private int depth(String name, Set<String> open) {
        int deepest = 0;
        open.add(name);
        for (String next : calls.getOrDefault(name, new HashSet<>())) {
            boolean ring = open.contains(next) && !next.equals(name);
            holds(name + " and " + next + " call one another", !ring);
            if (!open.contains(next)) {
                deepest = Math.max(deepest, depth(next, open));
            }
        }
        open.remove(name);
        return deepest + 1;
    }

    private void depths() {
        for (String name : calls.keySet()) {
            if (!name.endsWith(".<init>")) {
                int deep = depth(name, new HashSet<>());
                holds(name + " is " + deep + " calls deep, eight at most", deep <= DEEPEST);
            }
        }
    }

    public static void main(String[] args) throws IOException {
        JavaCompiler compiler = ToolProvider.getSystemJavaCompiler();
        try (StandardJavaFileManager files = compiler.getStandardFileManager(null, null, null)) {
            File file = new File(args[0], "src/main/java/DayOpeners.java");
            JavacTask task = (JavacTask) compiler.getTask(null, files, null, Arrays.asList("-proc:none"), null,
                files.getJavaFileObjects(file));
            CompilationUnitTree unit = task.parse().iterator().next();
            task.analyze();
            RulesTest rules = new RulesTest(Trees.instance(task), unit);
            rules.scan(new TreePath(unit), null);
            rules.recursion();
            rules.depths();
            holds("it has some twelve classes at most, " + rules.classes, rules.classes <= 12);
            holds("calls of the face are seen: " + rules.calls.size(), rules.calls.size() > 100);
        }
        CHECK.ends();
    }
}
