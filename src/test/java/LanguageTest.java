import com.sun.source.tree.*;
import com.sun.source.util.JavacTask;
import com.sun.source.util.SourcePositions;
import com.sun.source.util.TreePath;
import com.sun.source.util.TreePathScanner;
import com.sun.source.util.Trees;
import java.io.File;
import java.nio.charset.StandardCharsets;
import java.nio.file.Files;
import java.util.ArrayList;
import java.util.HashMap;
import java.util.HashSet;
import java.util.List;
import java.util.Map;
import java.util.Set;
import java.util.TreeSet;
import javax.lang.model.element.Element;
import javax.lang.model.element.ElementKind;
import javax.lang.model.element.ExecutableElement;
import javax.lang.model.element.Modifier;
import javax.lang.model.element.TypeElement;
import javax.lang.model.element.VariableElement;
import javax.tools.JavaCompiler;
import javax.tools.StandardJavaFileManager;
import javax.tools.ToolProvider;

/** Looks the source over for what ../shared/LANGUAGE.md rules out, as far as a program can see it. */
public final class LanguageTest extends TreePathScanner<Void, Void> {
    private static final String SOURCE = "src/main/java/EditsMeet.java";
    private static final Set<String> FACE = Set.of("row", "set", "copy", "element", "holds", "show", "says", "feed",
        "wipe", "edit", "of", "part", "letter", "spelled", "behind", "over", "turned", "differ", "does", "insert", "cut",
        "mark", "serve", "hear", "meet", "undo", "redo", "point", "cursor", "clientOf", "takes", "revision", "length",
        "text", "apart", "marked", "judge", "days", "seed", "image", "back", "status");
    private static final Set<String> LIBRARY = Set.of("java.lang.Math.min", "java.lang.Math.max",
        "java.lang.Integer.bitCount", "java.lang.System.arraycopy", "java.util.Arrays.fill", "java.lang.Object.<init>");

    private final Trees trees;
    private final SourcePositions places;
    private final CompilationUnitTree unit;
    private final Map<Element, Set<Element>> calls = new HashMap<>();
    private final Map<Element, Integer> depths = new HashMap<>();
    private final Set<Element> open = new HashSet<>();
    private final Set<String> faceFound = new TreeSet<>();
    private Element method;
    private int classes = 0;

    private LanguageTest(Trees trees, CompilationUnitTree unit) {
        this.trees = trees;
        this.places = trees.getSourcePositions();
        this.unit = unit;
    }

    public static void main(String[] args) throws Exception {
        String text = new String(Files.readAllBytes(new File(SOURCE).toPath()), StandardCharsets.ISO_8859_1);
        for (char c : text.toCharArray()) {
            if (c < 1 || c > 127) Check.that("signs are 1 to 127, not " + (int) c, false);
        }
        JavaCompiler compiler = ToolProvider.getSystemJavaCompiler();
        StandardJavaFileManager files = compiler.getStandardFileManager(null, null, null);
        JavacTask task = (JavacTask) compiler.getTask(null, files, null, List.of("-proc:none"), null,
            files.getJavaFileObjects(new File(SOURCE)));
        List<CompilationUnitTree> units = new ArrayList<>();
        task.parse().forEach(units::add);
        task.analyze();
        LanguageTest test = new LanguageTest(Trees.instance(task), units.get(0));
        Check.due("files", units.size(), 1);
        test.scan(units.get(0), null);
        test.finish();
        Check.end();
    }

    private void finish() {
        Check.that("package line", unit.getPackageName() == null);
        Check.that("no more than 12 classes, but " + classes, classes <= 12);
        Check.same("face", faceFound.toString(), new TreeSet<>(FACE).toString());
        for (Element called : calls.keySet()) {
            int depth = depth(called);
            Check.that(called.getEnclosingElement() + "." + called + " calls " + depth + " deep", depth <= 8);
        }
    }

    /** How many calls stand open at most with this one, the library's too; recursion is not used. */
    private int depth(Element called) {
        if (depths.containsKey(called)) return depths.get(called);
        if (!open.add(called)) {
            Check.that("recursion in " + called, false);
            return 99;
        }
        int deepest = 0;
        for (Element next : calls.getOrDefault(called, Set.of())) deepest = Math.max(deepest, depth(next));
        open.remove(called);
        depths.put(called, deepest + 1);
        return deepest + 1;
    }

    private long line(Tree tree) {
        return unit.getLineMap().getLineNumber(places.getStartPosition(unit, tree));
    }

    private void refuse(String rule, Tree tree) {
        Check.that("line " + line(tree) + ": " + rule, false);
    }

    private void call(ExecutableElement called, Tree tree) {
        String owner = ((TypeElement) called.getEnclosingElement()).getQualifiedName().toString();
        boolean isOwn = owner.equals("EditsMeet") || owner.startsWith("EditsMeet.");
        String name = owner + "." + called.getSimpleName();
        if (!isOwn && !LIBRARY.contains(name)) refuse("library: " + name, tree);
        if (isOwn && called.getModifiers().contains(Modifier.PUBLIC) && called.getKind() == ElementKind.METHOD) {
            refuse("a call of the face", tree);
        }
        if (method != null && !name.equals("java.lang.Object.<init>")) {
            calls.computeIfAbsent(method, m -> new HashSet<>()).add(called);
        }
    }

    @Override
    public Void visitImport(ImportTree tree, Void v) {
        String name = tree.getQualifiedIdentifier().toString();
        Check.that("import of " + name, name.equals("java.util.Arrays"));
        return super.visitImport(tree, v);
    }

    @Override
    public Void visitClass(ClassTree tree, Void v) {
        classes++;
        boolean isOuter = tree.getSimpleName().contentEquals("EditsMeet");
        Set<Modifier> flags = tree.getModifiers().getFlags();
        if (isOuter) Check.that("public final", flags.equals(Set.of(Modifier.PUBLIC, Modifier.FINAL)));
        else if (!flags.contains(Modifier.PRIVATE) || !flags.contains(Modifier.STATIC)) refuse("class flags", tree);
        int fields = 0;
        for (Tree member : tree.getMembers()) {
            if (member instanceof BlockTree) refuse("initialiser block", member);
            if (!(member instanceof VariableTree)) continue;
            VariableTree field = (VariableTree) member;
            Set<Modifier> has = field.getModifiers().getFlags();
            if (has.contains(Modifier.STATIC)) {
                if (!has.contains(Modifier.FINAL) || field.getInitializer() == null) refuse("static state", field);
                boolean isTheFace = isOuter && field.getName().contentEquals("NONE");
                if (has.contains(Modifier.PUBLIC) != isTheFace) refuse("public constant", field);
                Element e = trees.getElement(new TreePath(getCurrentPath(), field));
                if (((VariableElement) e).getConstantValue() == null) refuse("not a constant", field);
            } else {
                fields++;
                if (!has.contains(Modifier.PRIVATE)) refuse("a field that is not private", field);
            }
        }
        Check.that("fields of " + tree.getSimpleName() + ": " + fields, fields <= 20);
        return super.visitClass(tree, v);
    }

    @Override
    public Void visitMethod(MethodTree tree, Void v) {
        Element ahead = method;
        method = trees.getElement(getCurrentPath());
        calls.computeIfAbsent(method, m -> new HashSet<>());
        String name = tree.getName().toString();
        Set<Modifier> flags = tree.getModifiers().getFlags();
        boolean isOuter = method.getEnclosingElement().getSimpleName().contentEquals("EditsMeet");
        if (flags.contains(Modifier.PUBLIC)) {
            if (!isOuter || !FACE.contains(name) && !name.equals("<init>")) refuse("public " + name, tree);
            if (!name.equals("<init>") && !faceFound.add(name)) refuse("twice: " + name, tree);
        } else {
            if (FACE.contains(name)) refuse("a name of the face: " + name, tree);
            if (isOuter && !flags.contains(Modifier.PRIVATE)) refuse("a member that is not private", tree);
        }
        if (Set.of("equals", "hashCode", "toString", "finalize").contains(name)) refuse(name, tree);
        if (tree.getParameters().size() > 7) refuse("more than seven parameters", tree);
        if (!tree.getThrows().isEmpty()) refuse("throws", tree);
        long lines = unit.getLineMap().getLineNumber(places.getEndPosition(unit, tree)) - line(tree) + 1;
        if (lines > 60) refuse(name + " has " + lines + " lines", tree);
        super.visitMethod(tree, v);
        method = ahead;
        return null;
    }

    @Override
    public Void visitMethodInvocation(MethodInvocationTree tree, Void v) {
        call((ExecutableElement) trees.getElement(getCurrentPath()), tree);
        return super.visitMethodInvocation(tree, v);
    }

    @Override
    public Void visitMemberSelect(MemberSelectTree tree, Void v) {
        Element named = trees.getElement(getCurrentPath());
        boolean isField = named instanceof VariableElement && named.getEnclosingElement() instanceof TypeElement;
        String owner = isField ? ((TypeElement) named.getEnclosingElement()).getQualifiedName().toString() : "";
        if (owner.startsWith("java.")) refuse("a constant of the library: " + tree, tree);
        return super.visitMemberSelect(tree, v);
    }

    @Override
    public Void visitNewClass(NewClassTree tree, Void v) {
        if (tree.getClassBody() != null) refuse("anonymous class", tree);
        makes(tree);
        call((ExecutableElement) trees.getElement(getCurrentPath()), tree);
        return super.visitNewClass(tree, v);
    }

    @Override
    public Void visitNewArray(NewArrayTree tree, Void v) {
        makes(tree);
        return super.visitNewArray(tree, v);
    }

    /** Something is made: with the object alone, since what calls make is counted. */
    private void makes(Tree tree) {
        boolean isWithTheObject = method == null || method.getKind() == ElementKind.CONSTRUCTOR;
        if (!isWithTheObject) refuse("made by a call", tree);
    }

    @Override
    public Void visitBinary(BinaryTree tree, Void v) {
        String type = trees.getTypeMirror(getCurrentPath()).toString();
        if (type.startsWith("java.")) refuse("joining by +", tree);
        return super.visitBinary(tree, v);
    }

    @Override
    public Void visitWhileLoop(WhileLoopTree tree, Void v) {
        refuse("while: no bound is seen", tree);
        return super.visitWhileLoop(tree, v);
    }

    @Override
    public Void visitDoWhileLoop(DoWhileLoopTree tree, Void v) {
        refuse("do: no bound is seen", tree);
        return super.visitDoWhileLoop(tree, v);
    }

    @Override
    public Void visitForLoop(ForLoopTree tree, Void v) {
        if (tree.getCondition() == null || tree.getUpdate().size() != 1) refuse("for without a counter", tree);
        return super.visitForLoop(tree, v);
    }

    @Override
    public Void visitLambdaExpression(LambdaExpressionTree tree, Void v) {
        refuse("lambda", tree);
        return super.visitLambdaExpression(tree, v);
    }

    @Override
    public Void visitMemberReference(MemberReferenceTree tree, Void v) {
        refuse("method reference", tree);
        return super.visitMemberReference(tree, v);
    }

    @Override
    public Void visitThrow(ThrowTree tree, Void v) {
        refuse("the document names no exception", tree);
        return super.visitThrow(tree, v);
    }

    @Override
    public Void visitTry(TryTree tree, Void v) {
        refuse("try", tree);
        return super.visitTry(tree, v);
    }

    @Override
    public Void visitAssert(AssertTree tree, Void v) {
        refuse("assert", tree);
        return super.visitAssert(tree, v);
    }

    @Override
    public Void visitSynchronized(SynchronizedTree tree, Void v) {
        refuse("synchronized", tree);
        return super.visitSynchronized(tree, v);
    }

    @Override
    public Void visitTypeCast(TypeCastTree tree, Void v) {
        String to = tree.getType().toString();
        if (!Set.of("int", "long", "short", "byte", "char").contains(to)) refuse("a cast to " + to, tree);
        return super.visitTypeCast(tree, v);
    }
}
