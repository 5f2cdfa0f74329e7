import com.sun.source.tree.*;
import com.sun.source.util.JavacTask;
import com.sun.source.util.TreePath;
import com.sun.source.util.TreePathScanner;
import com.sun.source.util.Trees;
import java.lang.management.ManagementFactory;
import java.lang.reflect.Constructor;
import java.lang.reflect.Field;
import java.lang.reflect.Method;
import java.lang.reflect.Modifier;
import java.nio.file.Files;
import java.nio.file.Path;
import java.util.*;
import java.util.regex.Matcher;
import java.util.regex.Pattern;
import javax.lang.model.element.Element;
import javax.lang.model.element.ElementKind;
import javax.lang.model.element.ExecutableElement;
import javax.lang.model.element.TypeElement;
import javax.tools.JavaCompiler;
import javax.tools.StandardJavaFileManager;
import javax.tools.ToolProvider;

/** The face of the document, the rules of LANGUAGE.md that the source shows, and what is made. */
public final class RulesTest {
    private static final Set<String> FACE = Set.of(
            "int officer(int,int)", "int leave(int)", "int rate(int,int)", "int trust(int)", "int say(int)",
            "int wipe()", "int fault()", "int judge(int)", "int behind(int,int)", "int ledger(int)", "int done()",
            "int owed()", "int home(int)", "int bring(int,int)", "int lots()", "int even()", "int fair(int)",
            "int seen(int,int,boolean)", "int forget()", "int forged(int)", "int rank(int)", "int weigh(int)",
            "long broken(int,int,int)", "int rests(int,int,int,int)", "int year(int,int,int)", "int image(int)",
            "int restore(int)", "int told(int)");
    private static final Set<String> CONSTANTS =
            Set.of("UNKNOWN", "OUTSIDE", "STATE", "FULL", "NO", "NONE", "GONE");
    private static final Set<String> LIBRARY = Set.of("Integer.bitCount", "Math.max",
            "Math.min", "Math.abs", "System.arraycopy", "Arrays.fill");
    private static final Set<Tree.Kind> FORBIDDEN = EnumSet.of(Tree.Kind.THROW, Tree.Kind.TRY, Tree.Kind.CATCH,
            Tree.Kind.SYNCHRONIZED, Tree.Kind.ASSERT, Tree.Kind.LAMBDA_EXPRESSION, Tree.Kind.MEMBER_REFERENCE);
    private static int wrong = 0;

    private static void wrong(String what) {
        wrong++;
        System.out.println(what);
    }

    private static void check(boolean holds, String what) {
        if (!holds) {
            wrong(what);
        }
    }

    public static void main(String[] args) throws Exception {
        checkFace();
        checkDocument();
        checkSource();
        checkRoom();
        System.out.println("the rules: " + wrong + " wrong");
        if (wrong != 0) {
            System.exit(1);
        }
    }

    private static String signature(Method m) {
        StringJoiner s = new StringJoiner(",", m.getReturnType() + " " + m.getName() + "(", ")");
        for (Class<?> c : m.getParameterTypes()) {
            s.add(c.toString());
        }
        return s.toString();
    }

    private static void checkFace() {
        Class<?> c = ParoleLedger.class;
        check(Modifier.isPublic(c.getModifiers()) && Modifier.isFinal(c.getModifiers()), "public final class");
        Set<String> methods = new HashSet<>();
        Set<String> names = new HashSet<>();
        for (Method m : c.getDeclaredMethods()) {
            if (Modifier.isPublic(m.getModifiers())) {
                methods.add(signature(m));
                names.add(m.getName());
            } else {
                check(Modifier.isPrivate(m.getModifiers()), "neither public nor private: " + m);
            }
        }
        check(methods.equals(FACE), "public methods are " + methods);
        for (Class<?> in : c.getDeclaredClasses()) {
            check(Modifier.isStatic(in.getModifiers()), "a class that is not static: " + in);
            check(!Modifier.isPublic(in.getModifiers()), "a public class inside: " + in);
            for (Method m : in.getDeclaredMethods()) {
                check(!names.contains(m.getName()), "bears the name of a public method: " + m);
            }
        }
        for (Field f : c.getDeclaredFields()) {
            boolean constant = CONSTANTS.contains(f.getName());
            check(constant ? Modifier.isPublic(f.getModifiers()) && Modifier.isStatic(f.getModifiers())
                    && Modifier.isFinal(f.getModifiers()) : Modifier.isPrivate(f.getModifiers()), "field " + f);
        }
        Constructor<?>[] made = c.getDeclaredConstructors();
        check(made.length == 1 && made[0].getParameterCount() == 0 && Modifier.isPublic(made[0].getModifiers()),
                "one public constructor");
    }

    /** The face of the document itself, where it lies beside the project, is the one that is tested for. */
    private static void checkDocument() throws Exception {
        Path file = above("shared/DOC.md");
        if (file == null) {
            System.out.println("no document beside the project: its face is not compared");
            return;
        }
        String text = Files.readString(file);
        Set<String> calls = new HashSet<>();
        Matcher m = Pattern.compile("public (int|long) (\\w+)\\(([^)]*)\\);").matcher(text);
        while (m.find()) {
            String types = m.group(3).replaceAll(" \\w+(,|$)", "$1").replace(" ", "");
            calls.add(m.group(1) + " " + m.group(2) + "(" + types + ")");
        }
        check(calls.equals(FACE), "the document's calls are " + calls);
        Set<String> constants = new HashSet<>();
        m = Pattern.compile("public static final (?:int|long) ([^;]*);").matcher(text);
        while (m.find()) {
            for (String constant : m.group(1).split(", ")) {
                constants.add(constant.replaceAll(" =.*", ""));
            }
        }
        check(constants.equals(CONSTANTS), "the document's constants are " + constants);
    }

    private static Path source() {
        return above("src/main/java/ParoleLedger.java");
    }

    /** A file in the folder that the test runs in, or in one above it; null: there is none. */
    private static Path above(String name) {
        for (Path p = Path.of("").toAbsolutePath(); p != null; p = p.getParent()) {
            if (Files.exists(p.resolve(name))) {
                return p.resolve(name);
            }
        }
        return null;
    }

    private static void checkSource() throws Exception {
        for (byte b : Files.readAllBytes(source())) {
            check(b == '\n' || b >= 32 && b < 127, "a sign beyond 127 or a tab in the source");
        }
        JavaCompiler compiler = ToolProvider.getSystemJavaCompiler();
        try (StandardJavaFileManager files = compiler.getStandardFileManager(null, null, null)) {
            JavacTask task = (JavacTask) compiler.getTask(null, files, null, List.of("-proc:none"), null,
                    files.getJavaFileObjects(source()));
            CompilationUnitTree unit = task.parse().iterator().next();
            task.analyze();
            Scanner scanner = new Scanner(Trees.instance(task), unit);
            scanner.scan(unit, null);
            scanner.finish();
        }
    }

    /** Walks over the source once; calls are gathered for their depth. */
    private static final class Scanner extends TreePathScanner<Void, Void> {
        private final Trees trees;
        private final CompilationUnitTree unit;
        private final Map<Element, Set<Element>> calls = new HashMap<>();
        private final Map<Element, Integer> depths = new HashMap<>();
        private Element method;
        private int classes;

        Scanner(Trees trees, CompilationUnitTree unit) {
            this.trees = trees;
            this.unit = unit;
        }

        private long line(Tree tree) {
            return unit.getLineMap().getLineNumber(trees.getSourcePositions().getStartPosition(unit, tree));
        }

        private long lastLine(Tree tree) {
            return unit.getLineMap().getLineNumber(trees.getSourcePositions().getEndPosition(unit, tree));
        }

        private Element element(Tree tree) {
            return trees.getElement(new TreePath(getCurrentPath(), tree));
        }

        @Override
        public Void scan(Tree tree, Void v) {
            if (tree != null) {
                check(!FORBIDDEN.contains(tree.getKind()), "line " + line(tree) + ": " + tree.getKind());
            }
            return super.scan(tree, v);
        }

        @Override
        public Void visitClass(ClassTree tree, Void v) {
            classes++;
            int fields = 0;
            for (Tree member : tree.getMembers()) {
                if (member instanceof VariableTree field) {
                    Set<javax.lang.model.element.Modifier> m = field.getModifiers().getFlags();
                    boolean isStatic = m.contains(javax.lang.model.element.Modifier.STATIC);
                    fields += isStatic ? 0 : 1;
                    check(!isStatic || m.contains(javax.lang.model.element.Modifier.FINAL),
                            "line " + line(field) + ": a static field that is not final");
                }
                check(!(member instanceof BlockTree b && b.isStatic()), "a static initialiser");
            }
            check(fields <= 20, tree.getSimpleName() + " has " + fields + " fields");
            return super.visitClass(tree, v);
        }

        @Override
        public Void visitMethod(MethodTree tree, Void v) {
            method = trees.getElement(getCurrentPath());
            calls.put(method, new HashSet<>());
            check(tree.getParameters().size() <= 7, tree.getName() + " takes too many parameters");
            check(lastLine(tree) - line(tree) < 40, tree.getName() + " is long");
            super.visitMethod(tree, v);
            method = null;
            return null;
        }

        @Override
        public Void visitNewArray(NewArrayTree tree, Void v) {
            check(method == null, "line " + line(tree) + ": a method makes an array");
            return super.visitNewArray(tree, v);
        }

        @Override
        public Void visitNewClass(NewClassTree tree, Void v) {
            check(method == null, "line " + line(tree) + ": a method makes an object");
            check(tree.getClassBody() == null, "line " + line(tree) + ": an anonymous class");
            return super.visitNewClass(tree, v);
        }

        @Override
        public Void visitMethodInvocation(MethodInvocationTree tree, Void v) {
            Element called = element(tree.getMethodSelect());
            if (method != null && called.getKind() == ElementKind.METHOD) {
                calls.get(method).add(called);
            }
            return super.visitMethodInvocation(tree, v);
        }

        @Override
        public Void visitMemberSelect(MemberSelectTree tree, Void v) {
            Element e = trees.getElement(getCurrentPath());
            if (e != null && (e.getKind() == ElementKind.METHOD || e.getKind() == ElementKind.FIELD)
                    && e.getEnclosingElement() instanceof TypeElement owner
                    && !owner.getQualifiedName().toString().startsWith("ParoleLedger")) {
                String name = owner.getSimpleName() + "." + e.getSimpleName();
                check(LIBRARY.contains(name), "line " + line(tree) + ": " + name + " of the library");
            }
            return super.visitMemberSelect(tree, v);
        }

        @Override
        public Void visitBinary(BinaryTree tree, Void v) {
            String type = String.valueOf(trees.getTypeMirror(getCurrentPath()));
            check(!type.equals("java.lang.String"), "line " + line(tree) + ": texts joined by +");
            return super.visitBinary(tree, v);
        }

        private int depth(Element e, int open) {
            if (open > 50) {
                wrong("recursion at " + e);
                return 0;
            }
            Integer known = depths.get(e);
            if (known != null) {
                return known;
            }
            int most = 0;
            for (Element next : calls.getOrDefault(e, Set.of())) {
                most = Math.max(most, depth(next, open + 1));
            }
            depths.put(e, most + 1);
            return most + 1;
        }

        void finish() {
            check(classes <= 12, classes + " classes");
            for (Element e : calls.keySet()) {
                int depth = depth(e, 0);
                check(depth <= 8, ((ExecutableElement) e).getSimpleName() + " calls " + depth + " deep");
            }
        }
    }

    /** Every call, many times: none makes an object. */
    private static void checkRoom() {
        com.sun.management.ThreadMXBean bean =
                (com.sun.management.ThreadMXBean) ManagementFactory.getThreadMXBean();
        ParoleLedger x = new ParoleLedger();
        useAll(x);
        long before = bean.getCurrentThreadAllocatedBytes();
        long idle = bean.getCurrentThreadAllocatedBytes() - before;
        before = bean.getCurrentThreadAllocatedBytes();
        for (int i = 0; i < 500; i++) {
            useAll(x);
        }
        long made = bean.getCurrentThreadAllocatedBytes() - before - idle;
        check(made < 4096, "500 rounds of calls made " + made + " bytes");
    }

    private static void useAll(ParoleLedger x) {
        for (int i = 0; i < 12; i++) {
            x.officer(i, i % 6);
        }
        x.say('A');
        x.say('s');
        for (int what = 0; what < 3; what++) {
            x.judge(what);
            x.behind(0, what);
            x.ledger(what);
            x.home(what);
            x.bring(0, what);
            x.forged(what);
            x.weigh(what);
            x.rests(0, 5, 2, what);
            x.year(77, 99, what);
            x.broken(3, what, 0);
            x.told(what);
        }
        x.fault();
        x.done();
        x.owed();
        x.lots();
        x.even();
        x.fair(2);
        x.seen(3, 3, true);
        x.rank(1);
        x.forget();
        x.image(0);
        x.restore(0);
        x.leave(11);
        x.rate(0, 1);
        x.trust(5);
        x.wipe();
    }
}
