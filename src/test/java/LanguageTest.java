import com.sun.source.tree.ArrayAccessTree;
import com.sun.source.tree.AssertTree;
import com.sun.source.tree.AssignmentTree;
import com.sun.source.tree.BinaryTree;
import com.sun.source.tree.BlockTree;
import com.sun.source.tree.ClassTree;
import com.sun.source.tree.CompilationUnitTree;
import com.sun.source.tree.CompoundAssignmentTree;
import com.sun.source.tree.ExpressionTree;
import com.sun.source.tree.ImportTree;
import com.sun.source.tree.LambdaExpressionTree;
import com.sun.source.tree.LiteralTree;
import com.sun.source.tree.MemberReferenceTree;
import com.sun.source.tree.MethodInvocationTree;
import com.sun.source.tree.MethodTree;
import com.sun.source.tree.NewArrayTree;
import com.sun.source.tree.NewClassTree;
import com.sun.source.tree.SynchronizedTree;
import com.sun.source.tree.ThrowTree;
import com.sun.source.tree.Tree;
import com.sun.source.tree.TryTree;
import com.sun.source.tree.UnaryTree;
import com.sun.source.tree.VariableTree;
import com.sun.source.util.JavacTask;
import com.sun.source.util.TreePath;
import com.sun.source.util.TreePathScanner;
import com.sun.source.util.Trees;
import java.io.File;
import java.io.IOException;
import java.nio.charset.StandardCharsets;
import java.nio.file.Files;
import java.util.ArrayList;
import java.util.HashMap;
import java.util.HashSet;
import java.util.List;
import java.util.Map;
import java.util.Set;
import java.util.TreeSet;
import javax.lang.model.element.Element;
import javax.lang.model.element.ElementKind;
import javax.lang.model.element.ExecutableElement;
import javax.lang.model.element.Modifier;
import javax.lang.model.element.TypeElement;
import javax.tools.JavaCompiler;
import javax.tools.StandardJavaFileManager;
import javax.tools.ToolProvider;

/** The rules of LANGUAGE.md that can be seen in the source, asked of its tree. */
public final class LanguageTest {
    private static final String SOURCE = "src/main/java/CrumbsHome.java";
    private static final Set<String> FACE = Set.of(
        "CrumbsHome()", "opens(int,int,int)", "field(int,int)", "far(int,int)", "bit(int,int,int)", "bitIs(int,int)",
        "become(int,int)", "as(int,int)", "hears(int,int)", "lay(int,int)", "feed(long,int)", "text(int)", "untell(int)",
        "law(int,int,int,int)", "days(int)", "loose(int)", "day(int)", "seed(int)", "then(int,int)", "soonest(int)",
        "gets(int,int)", "carry(int,int,int)", "way(int,int)", "odds(int,int)", "whose(int,int,int)",
        "voice(int,int,int)", "body(int)", "sheet(int,int,int)", "put(int,int,int)", "move(int,int,int,int,int)",
        "lays(int)", "judge(int)", "image()", "restore()", "tell(int)", "check()", "count(int)", "told(int)");
    private static final Set<String> LIBRARY = Set.of(
        "java.lang.Object.<init>", "java.lang.System.arraycopy", "java.lang.Math.max", "java.lang.Math.min",
        "java.lang.Integer.bitCount", "java.lang.String.indexOf", "java.lang.String.charAt", "java.lang.String.length");

    private static final Set<String> TYPES = Set.of(
        "int", "int[]", "long", "boolean", "java.lang.String", "CrumbsHome.World", "CrumbsHome.Harvest",
        "CrumbsHome.Roads", "CrumbsHome.Law", "CrumbsHome.Reader", "CrumbsHome.Sheets");
    private static final Set<String> OBJECTS_OWN = Set.of("equals", "hashCode", "toString", "finalize");

    private static int wrong = 0;
    private static int classes = 0;
    private static final Set<String> face = new TreeSet<>();
    private static final Set<String> privates = new TreeSet<>();
    private static final Map<String, Set<String>> calls = new HashMap<>();

    private static void ask(boolean holds, String rule) {
        if (holds) return;
        wrong++;
        System.out.println("LANGUAGE.md, " + rule);
    }

    private static String nameOf(Element e) {
        return ((TypeElement) e.getEnclosingElement()).getQualifiedName() + "." + e.getSimpleName();
    }

    private static final class Scanner extends TreePathScanner<Void, Void> {
        private final Trees trees;
        private final CompilationUnitTree unit;
        private String method = "";
        private boolean makesOnce = true;

        Scanner(Trees trees, CompilationUnitTree unit) {
            this.trees = trees;
            this.unit = unit;
        }

        private long line(long position) {
            return unit.getLineMap().getLineNumber(position);
        }

        private Element element() {
            return trees.getElement(getCurrentPath());
        }

        @Override
        public Void visitClass(ClassTree t, Void v) {
            classes++;
            Element e = element();
            boolean outer = e.getEnclosingElement().getKind() == ElementKind.PACKAGE;
            Set<Modifier> m = e.getModifiers();
            if (outer) ask(m.contains(Modifier.PUBLIC) && m.contains(Modifier.FINAL), "1: the class is public and final");
            else ask(m.contains(Modifier.STATIC) && !m.contains(Modifier.PUBLIC), "2: " + e + " is static, not public");
            int fields = 0;
            for (Element in : e.getEnclosedElements()) {
                if (in.getKind() == ElementKind.FIELD && !in.getModifiers().contains(Modifier.STATIC)) fields++;
                if (outer) askMember(in);
            }
            ask(fields <= 20, "11: " + e + " has " + fields + " fields");
            return super.visitClass(t, v);
        }

        private void askMember(Element in) {
            if (in.getModifiers().contains(Modifier.PRIVATE)) return;
            boolean callable = in.getKind() == ElementKind.METHOD || in.getKind() == ElementKind.CONSTRUCTOR;
            ask(callable && in.getModifiers().contains(Modifier.PUBLIC), "1: " + in + " is of the face");
            face.add(in.toString());
        }

        @Override
        public Void visitMethod(MethodTree t, Void v) {
            ExecutableElement e = (ExecutableElement) element();
            long first = line(trees.getSourcePositions().getStartPosition(unit, t));
            long last = line(trees.getSourcePositions().getEndPosition(unit, t));
            ask(last - first < 60, "11: " + e + " has " + (last - first + 1) + " lines");
            ask(t.getParameters().size() <= 7, "11: " + e + " takes at most seven parameters");
            ask(!OBJECTS_OWN.contains(e.getSimpleName().toString()), "6: " + e);
            if (!e.getModifiers().contains(Modifier.PUBLIC)) privates.add(e.getSimpleName().toString());
            method = nameOf(e);
            makesOnce = e.getKind() == ElementKind.CONSTRUCTOR;
            calls.putIfAbsent(method, new HashSet<>());
            super.visitMethod(t, v);
            makesOnce = true;
            method = "";
            return null;
        }

        @Override
        public Void visitVariable(VariableTree t, Void v) {
            Element e = element();
            boolean loose = e.getModifiers().contains(Modifier.STATIC) && !e.getModifiers().contains(Modifier.FINAL);
            ask(!loose, "5: " + e + " is final");
            ask(TYPES.contains(e.asType().toString()), "3: " + e + " is of " + e.asType());
            return super.visitVariable(t, v);
        }

        @Override
        public Void visitMethodInvocation(MethodInvocationTree t, Void v) {
            Element e = trees.getElement(new TreePath(getCurrentPath(), t.getMethodSelect()));
            String name = nameOf(e);
            if (name.startsWith("CrumbsHome")) calls.computeIfAbsent(method, k -> new HashSet<>()).add(name);
            else ask(LIBRARY.contains(name), "4: " + name + " at line " + at(t));
            return super.visitMethodInvocation(t, v);
        }

        private long at(Tree t) {
            return line(trees.getSourcePositions().getStartPosition(unit, t));
        }

        private boolean isText(ExpressionTree t) {
            return trees.getTypeMirror(new TreePath(getCurrentPath(), t)).toString().equals("java.lang.String");
        }

        @Override
        public Void visitBinary(BinaryTree t, Void v) {
            boolean text = isText(t.getLeftOperand()) || isText(t.getRightOperand());
            ask(!text, "6 and 10: " + t.getKind() + " of texts at line " + at(t));
            return super.visitBinary(t, v);
        }

        @Override
        public Void visitBlock(BlockTree t, Void v) {
            boolean initialiser = getCurrentPath().getParentPath().getLeaf() instanceof ClassTree;
            ask(!initialiser, "5: an initialiser block at line " + at(t));
            return super.visitBlock(t, v);
        }

        /** A row that is written out in a class is never changed. */
        private void askChanged(ExpressionTree changed) {
            if (!(changed instanceof ArrayAccessTree)) return;
            TreePath row = new TreePath(new TreePath(getCurrentPath(), changed), ((ArrayAccessTree) changed).getExpression());
            Element e = trees.getElement(row);
            ask(e != null && !e.getModifiers().contains(Modifier.STATIC), "5: " + e + " is changed at line " + at(changed));
        }

        @Override
        public Void visitAssignment(AssignmentTree t, Void v) {
            askChanged(t.getVariable());
            return super.visitAssignment(t, v);
        }

        @Override
        public Void visitCompoundAssignment(CompoundAssignmentTree t, Void v) {
            askChanged(t.getVariable());
            ask(!isText(t.getVariable()), "10: texts joined at line " + at(t));
            return super.visitCompoundAssignment(t, v);
        }

        @Override
        public Void visitUnary(UnaryTree t, Void v) {
            boolean changes = t.getKind().name().endsWith("CREMENT");
            if (changes) askChanged(t.getExpression());
            return super.visitUnary(t, v);
        }

        @Override
        public Void visitLiteral(LiteralTree t, Void v) {
            if (t.getValue() instanceof String) {
                for (char c : ((String) t.getValue()).toCharArray()) ask(c >= 1 && c <= 127, "4: a sign at line " + at(t));
            }
            return super.visitLiteral(t, v);
        }

        @Override
        public Void visitNewClass(NewClassTree t, Void v) {
            ask(makesOnce && t.getClassBody() == null, "the room: an object is made by a call at line " + at(t));
            return super.visitNewClass(t, v);
        }

        @Override
        public Void visitNewArray(NewArrayTree t, Void v) {
            ask(makesOnce, "the room: a row is made by a call at line " + at(t));
            return super.visitNewArray(t, v);
        }

        @Override
        public Void visitImport(ImportTree t, Void v) {
            ask(false, "4: an import");
            return null;
        }

        @Override
        public Void visitThrow(ThrowTree t, Void v) {
            ask(false, "6: throw at line " + at(t));
            return null;
        }

        @Override
        public Void visitTry(TryTree t, Void v) {
            ask(false, "6: try at line " + at(t));
            return null;
        }

        @Override
        public Void visitSynchronized(SynchronizedTree t, Void v) {
            ask(false, "6: synchronized at line " + at(t));
            return null;
        }

        @Override
        public Void visitAssert(AssertTree t, Void v) {
            ask(false, "6: assert at line " + at(t));
            return null;
        }

        @Override
        public Void visitLambdaExpression(LambdaExpressionTree t, Void v) {
            ask(false, "2: a lambda at line " + at(t));
            return null;
        }

        @Override
        public Void visitMemberReference(MemberReferenceTree t, Void v) {
            ask(false, "2: a method reference at line " + at(t));
            return null;
        }
    }

    private static boolean reaches(String from, String to, Set<String> seen) {
        for (String next : calls.getOrDefault(from, Set.of())) {
            if (next.equals(to) || seen.add(next) && reaches(next, to, seen)) return true;
        }
        return false;
    }

    /** How deep calls go from a method on, those of recursions counted once. */
    private static int depth(String from, List<String> standing) {
        int most = 0;
        standing.add(from);
        for (String next : calls.getOrDefault(from, Set.of())) {
            if (!standing.contains(next)) most = Math.max(most, depth(next, standing));
        }
        standing.remove(from);
        return 1 + most;
    }

    private static void askCalls() {
        Set<String> recursions = new TreeSet<>();
        for (String name : calls.keySet()) if (reaches(name, name, new HashSet<>())) recursions.add(name);
        Set<String> known = Set.of("CrumbsHome.say", "CrumbsHome.sayBody", "CrumbsHome.Reader.readRank",
            "CrumbsHome.Reader.readJoined", "CrumbsHome.Reader.readOne", "CrumbsHome.Reader.readOpened");
        ask(recursions.equals(known), "8: calls that call themselves: " + recursions);
        for (String name : calls.keySet()) {
            int deep = depth(name, new ArrayList<>());
            ask(!calls.get(name).contains(name), "8: " + name + " calls itself, and is not static");
            ask(deep <= 8, "8: " + name + " goes " + deep + " deep");
        }
    }

    public static void main(String[] args) throws IOException {
        JavaCompiler compiler = ToolProvider.getSystemJavaCompiler();
        try (StandardJavaFileManager files = compiler.getStandardFileManager(null, null, null)) {
            JavacTask task = (JavacTask) compiler.getTask(null, files, null, null, null, files.getJavaFileObjects(new File(SOURCE)));
            Trees trees = Trees.instance(task);
            List<CompilationUnitTree> units = new ArrayList<>();
            for (CompilationUnitTree unit : task.parse()) units.add(unit);
            task.analyze();
            for (CompilationUnitTree unit : units) new Scanner(trees, unit).scan(unit, null);
        }
        ask(classes <= 12, "11: " + classes + " classes");
        ask(face.equals(FACE), "1: the face is " + face);
        for (String name : privates) {
            for (String called : FACE) ask(!called.startsWith(name + "("), "1: " + name + " is a name of the face");
        }
        askCalls();
        for (char c : Files.readString(new File(SOURCE).toPath(), StandardCharsets.UTF_8).toCharArray()) {
            ask(c < 127, "4: a sign " + (int) c);
        }
        System.out.println(wrong == 0 ? "the source keeps to the rules that can be seen" : wrong + " places do not");
        if (wrong > 0) System.exit(1);
    }
}
