import com.sun.source.tree.AssertTree;
import com.sun.source.tree.BinaryTree;
import com.sun.source.tree.ClassTree;
import com.sun.source.tree.CompilationUnitTree;
import com.sun.source.tree.CompoundAssignmentTree;
import com.sun.source.tree.DoWhileLoopTree;
import com.sun.source.tree.ExpressionTree;
import com.sun.source.tree.ForLoopTree;
import com.sun.source.tree.IdentifierTree;
import com.sun.source.tree.ImportTree;
import com.sun.source.tree.LambdaExpressionTree;
import com.sun.source.tree.LiteralTree;
import com.sun.source.tree.MemberReferenceTree;
import com.sun.source.tree.MemberSelectTree;
import com.sun.source.tree.MethodInvocationTree;
import com.sun.source.tree.MethodTree;
import com.sun.source.tree.NewClassTree;
import com.sun.source.tree.SynchronizedTree;
import com.sun.source.tree.ThrowTree;
import com.sun.source.tree.Tree;
import com.sun.source.tree.TryTree;
import com.sun.source.tree.VariableTree;
import com.sun.source.tree.WhileLoopTree;
import com.sun.source.util.JavacTask;
import com.sun.source.util.SourcePositions;
import com.sun.source.util.TreePath;
import com.sun.source.util.TreePathScanner;
import com.sun.source.util.Trees;
import java.nio.file.Files;
import java.nio.file.Path;
import java.util.ArrayList;
import java.util.LinkedHashMap;
import java.util.LinkedHashSet;
import java.util.List;
import java.util.Map;
import java.util.Set;
import java.util.regex.Pattern;
import javax.lang.model.element.Element;
import javax.lang.model.element.ElementKind;
import javax.lang.model.element.Modifier;
import javax.lang.model.element.TypeElement;
import javax.lang.model.type.ArrayType;
import javax.lang.model.type.TypeKind;
import javax.lang.model.type.TypeMirror;
import javax.tools.JavaCompiler;
import javax.tools.StandardJavaFileManager;
import javax.tools.ToolProvider;

/** The rules of LANGUAGE.md that the class's own text can break, asked of javac's tree of it. */
public final class Language extends TreePathScanner<Void, Void> {
    private static final Path SOURCE = Path.of("src/main/java/PlaceNets.java");
    private static final int MOST_DEEP = 8;
    private static final int MOST_LINES = 60;
    private static final int MOST_PARAMETERS = 7;

    /** What stands of the library in rule 4, and what of it has no more than a type in rules 3 and 6. */
    private static final Pattern LIBRARY = Pattern.compile(
        "java\\.lang\\.String\\.(length|charAt|isEmpty|equals|indexOf|substring|toCharArray|<init>)"
        + "|java\\.lang\\.StringBuilder\\.(<init>|append|charAt|setCharAt|setLength|deleteCharAt|reverse|length|toString)"
        + "|java\\.util\\.(ArrayList|List)\\.(<init>|add|get|set|remove|size|isEmpty|clear|of)"
        + "|java\\.lang\\.(Integer|Long|Math)\\.[a-z]\\w*(?<!Exact)"
        + "|java\\.lang\\.System\\.arraycopy"
        + "|java\\.util\\.Arrays\\.(copyOf|copyOfRange|fill)");
    private static final String EXCEPTION = "(IllegalState|IllegalArgument|IndexOutOfBounds|Arithmetic"
        + "|UnsupportedOperation|NoSuchElement|Runtime)Exception";
    private static final Pattern TYPE = Pattern.compile(
        "java\\.lang\\.(String|StringBuilder|Integer|Long|Math|System|Iterable|Comparable|Object)"
        + "|java\\.util\\.(ArrayList|List|Arrays|Iterator)|java\\.(lang|util)\\." + EXCEPTION);

    private final CompilationUnitTree unit;
    private final Trees trees;
    private final SourcePositions positions;
    private final Map<String, Set<String>> calls = new LinkedHashMap<>();
    private final List<String> openCalls = new ArrayList<>();
    private String method;
    private int wrong;

    private Language(CompilationUnitTree unit, Trees trees) {
        this.unit = unit;
        this.trees = trees;
        this.positions = trees.getSourcePositions();
    }

    private void fail(Tree at, String what) {
        wrong++;
        System.out.println("line " + lineOf(positions.getStartPosition(unit, at)) + ": " + what);
    }

    private long lineOf(long position) {
        return unit.getLineMap().getLineNumber(position);
    }

    private Element here() {
        return trees.getElement(getCurrentPath());
    }

    private static String nameOf(Element e) {
        return e.getEnclosingElement() + "." + e;
    }

    private static boolean isOwn(Element e) {
        String name = e instanceof TypeElement ? e.toString() : String.valueOf(e.getEnclosingElement());
        return name.equals("PlaceNets") || name.startsWith("PlaceNets.");
    }

    // ---- rules 3, 4 and 6: types and members of the library

    private void askLibrary(Tree at, Element e) {
        if (e == null || isOwn(e)) {
            return;
        }
        if (e instanceof TypeElement) {
            if (!TYPE.matcher(e.toString()).matches()) {
                fail(at, "rule 3: type " + e);
            }
            return;
        }
        boolean member = e.getKind().isField() || e.getKind() == ElementKind.METHOD;
        boolean arrays = e.getSimpleName().contentEquals("length") && e.getKind().isField()
            || e.getSimpleName().contentEquals("clone");
        boolean named = LIBRARY.matcher(e.getEnclosingElement() + "." + e.getSimpleName()).matches();
        if (member && !arrays && (e.getKind().isField() || !named)) {
            fail(at, "rule 4: " + nameOf(e));
        }
    }

    @Override
    public Void visitIdentifier(IdentifierTree t, Void v) {
        askLibrary(t, here());
        return super.visitIdentifier(t, v);
    }

    @Override
    public Void visitMemberSelect(MemberSelectTree t, Void v) {
        askLibrary(t, here());
        return super.visitMemberSelect(t, v);
    }

    @Override
    public Void visitImport(ImportTree t, Void v) {
        if (t.isStatic() || !TYPE.matcher(t.getQualifiedIdentifier().toString()).matches()) {
            fail(t, "rule 4: " + t);
        }
        return null;
    }

    @Override
    public Void visitLiteral(LiteralTree t, Void v) {
        if (t.getValue() instanceof String text && !text.matches("[\\x01-\\x7f]*")) {
            fail(t, "rule 4: a sign of a text");
        }
        return super.visitLiteral(t, v);
    }

    // ---- rules 2, 6, 9 and 10: what is barred

    @Override
    public Void visitLambdaExpression(LambdaExpressionTree t, Void v) {
        fail(t, "rule 2: a lambda");
        return super.visitLambdaExpression(t, v);
    }

    @Override
    public Void visitMemberReference(MemberReferenceTree t, Void v) {
        fail(t, "rule 2: a method reference");
        return super.visitMemberReference(t, v);
    }

    @Override
    public Void visitTry(TryTree t, Void v) {
        fail(t, "rule 6: no call of this class needs a try");
        return super.visitTry(t, v);
    }

    @Override
    public Void visitSynchronized(SynchronizedTree t, Void v) {
        fail(t, "rule 6: synchronized");
        return super.visitSynchronized(t, v);
    }

    @Override
    public Void visitAssert(AssertTree t, Void v) {
        fail(t, "rule 6: assert");
        return super.visitAssert(t, v);
    }

    @Override
    public Void visitThrow(ThrowTree t, Void v) {
        String text = t.getExpression().toString();
        if (!text.matches("new " + EXCEPTION + "\\((\"[^\"]*\")?\\)") || method == null || method.contains("<init>")) {
            fail(t, "rule 6: " + t);
        }
        if (!text.startsWith("new NoSuchElementException(") || !method.startsWith("PlaceNets.arc(")) {
            fail(t, "the document has no such exception there: " + t);
        }
        return super.visitThrow(t, v);
    }

    @Override
    public Void visitForLoop(ForLoopTree t, Void v) {
        askEnd(t, t.getCondition());
        return super.visitForLoop(t, v);
    }

    @Override
    public Void visitWhileLoop(WhileLoopTree t, Void v) {
        askEnd(t, t.getCondition());
        return super.visitWhileLoop(t, v);
    }

    @Override
    public Void visitDoWhileLoop(DoWhileLoopTree t, Void v) {
        askEnd(t, t.getCondition());
        return super.visitDoWhileLoop(t, v);
    }

    /** A counter against a bound shows in the condition. */
    private void askEnd(Tree loop, ExpressionTree condition) {
        if (condition == null || !condition.toString().matches(".*[<>].*")) {
            fail(loop, "rule 9: no end is seen of the loop");
        }
    }

    private TypeMirror typeOf(ExpressionTree t) {
        return trees.getTypeMirror(new TreePath(getCurrentPath(), t));
    }

    @Override
    public Void visitBinary(BinaryTree t, Void v) {
        boolean joins = t.getKind() == Tree.Kind.PLUS && typeOf(t).getKind() == TypeKind.DECLARED;
        boolean compares = t.getKind() == Tree.Kind.EQUAL_TO || t.getKind() == Tree.Kind.NOT_EQUAL_TO;
        if (joins) {
            fail(t, "rule 10: texts joined by +");
        }
        if (compares && String.valueOf(typeOf(t.getLeftOperand())).matches("java\\.lang\\.(String|Integer)")) {
            fail(t, "rule 6: == between texts or Integers");
        }
        boolean parts = t.getKind() == Tree.Kind.DIVIDE || t.getKind() == Tree.Kind.REMAINDER;
        if (parts && !DIVISORS.contains(t.getRightOperand().toString())) {
            fail(t, "rule 7: look whether the divisor can be 0, then name it in DIVISORS: " + t);
        }
        return super.visitBinary(t, v);
    }

    /** A number, or one whose lines ask it ahead: choices != 0, y != 0, divisor > 1. */
    private static final Set<String> DIVISORS = Set.of("1000003", "choices", "y", "divisor");

    @Override
    public Void visitCompoundAssignment(CompoundAssignmentTree t, Void v) {
        if (t.getKind() == Tree.Kind.DIVIDE_ASSIGNMENT || t.getKind() == Tree.Kind.REMAINDER_ASSIGNMENT) {
            fail(t, "rule 7: a divisor in " + t);
        }
        if (t.getKind() == Tree.Kind.PLUS_ASSIGNMENT && typeOf(t.getVariable()).getKind() == TypeKind.DECLARED) {
            fail(t, "rule 10: texts joined by +=");
        }
        return super.visitCompoundAssignment(t, v);
    }

    // ---- rules 3, 5 and 11: fields, variables, methods

    @Override
    public Void visitClass(ClassTree t, Void v) {
        for (Tree m : t.getMembers()) {
            if (m.getKind() == Tree.Kind.BLOCK) {
                fail(m, "rule 5: an initialiser block");
            }
        }
        return super.visitClass(t, v);
    }

    @Override
    public Void visitVariable(VariableTree t, Void v) {
        Element e = here();
        TypeMirror type = e.asType();
        int dimensions = 0;
        for (; type instanceof ArrayType row && dimensions < 9; dimensions++) {
            type = row.getComponentType();
        }
        boolean named = type.getKind() == TypeKind.DECLARED;
        boolean own = type.toString().startsWith("PlaceNets");
        if (type.getKind() == TypeKind.DOUBLE || type.getKind() == TypeKind.FLOAT) {
            fail(t, "rule 3: no promise needs " + type);
        }
        if (dimensions > (named ? 1 : 2) || (named && !own && !TYPE.matcher(type.toString()).matches())) {
            fail(t, "rule 3: " + e.asType() + " " + e);
        }
        if (e.getKind().isField() && e.getModifiers().contains(Modifier.STATIC)) {
            askConstant(t, e);
        }
        return super.visitVariable(t, v);
    }

    private void askConstant(Tree t, Element e) {
        boolean fit = e.asType().toString().matches("int|long|boolean|char|java\\.lang\\.String");
        if (!fit || !e.getModifiers().contains(Modifier.FINAL)) {
            fail(t, "rule 5: " + e);
        }
    }

    @Override
    public Void visitMethod(MethodTree t, Void v) {
        String outer = method;
        method = nameOf(here());
        calls.put(method, new LinkedHashSet<>());
        long first = lineOf(positions.getStartPosition(unit, t));
        long last = lineOf(positions.getEndPosition(unit, t));
        if (last - first + 1 > MOST_LINES) {
            fail(t, "rule 11: " + method + " has " + (last - first + 1) + " lines");
        }
        if (t.getParameters().size() > MOST_PARAMETERS) {
            fail(t, "rule 11: " + method + " has more than seven parameters");
        }
        super.visitMethod(t, v);
        method = outer;
        return null;
    }

    @Override
    public Void visitMethodInvocation(MethodInvocationTree t, Void v) {
        keepCall(here());
        return super.visitMethodInvocation(t, v);
    }

    @Override
    public Void visitNewClass(NewClassTree t, Void v) {
        keepCall(here());
        return super.visitNewClass(t, v);
    }

    private void keepCall(Element e) {
        if (e != null && isOwn(e) && method != null) {
            calls.get(method).add(nameOf(e));
        }
    }

    // ---- rules 8 and 11: how deep calls go

    /** How many methods stand open at once below this one and with it; one that calls itself counts once. */
    private int depthOf(String name) {
        if (openCalls.contains(name)) {
            if (!openCalls.get(openCalls.size() - 1).equals(name)) {
                wrong++;
                System.out.println("rule 8: look at the methods that call one another: " + openCalls);
            }
            return 0;
        }
        int deepest = 0;
        openCalls.add(name);
        for (String called : calls.getOrDefault(name, Set.of())) {
            deepest = Math.max(deepest, depthOf(called));
        }
        openCalls.remove(openCalls.size() - 1);
        return deepest + 1;
    }

    private void askDepths() {
        for (String name : calls.keySet()) {
            int depth = depthOf(name);
            if (depth > MOST_DEEP) {
                wrong++;
                System.out.println("rule 11: calls of " + name + " go " + depth + " deep");
            }
        }
        if (calls.size() < 100) {
            wrong++;
            System.out.println("only " + calls.size() + " methods were looked at");
        }
    }

    private void askSigns() throws Exception {
        for (char c : Files.readString(SOURCE).toCharArray()) {
            if (c > 126) {
                wrong++;
                System.out.println("rule 4: sign " + (int) c);
            }
        }
    }

    public static void main(String[] args) throws Exception {
        JavaCompiler compiler = ToolProvider.getSystemJavaCompiler();
        StandardJavaFileManager files = compiler.getStandardFileManager(null, null, null);
        JavacTask task = (JavacTask) compiler.getTask(null, files, null,
            List.of("-proc:none", "-cp", ""), null, files.getJavaFileObjects(SOURCE));
        CompilationUnitTree unit = task.parse().iterator().next();
        task.analyze();
        Language rules = new Language(unit, Trees.instance(task));
        rules.scan(unit, null);
        rules.askDepths();
        rules.askSigns();
        System.out.println(rules.wrong == 0 ? "the language's rules hold" : rules.wrong + " rules broken");
        if (rules.wrong != 0) {
            System.exit(1);
        }
    }
}
