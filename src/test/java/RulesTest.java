import com.sun.management.ThreadMXBean;
import com.sun.source.tree.*;
import com.sun.source.util.JavacTask;
import com.sun.source.util.TreeScanner;
import java.lang.management.ManagementFactory;
import java.lang.reflect.Constructor;
import java.lang.reflect.Executable;
import java.lang.reflect.Field;
import java.lang.reflect.Method;
import java.lang.reflect.Modifier;
import java.nio.file.Files;
import java.nio.file.Path;
import java.util.HashMap;
import java.util.HashSet;
import java.util.List;
import java.util.Map;
import java.util.Set;
import java.util.TreeSet;
import java.util.regex.Matcher;
import java.util.regex.Pattern;
import javax.tools.JavaCompiler;
import javax.tools.ToolProvider;

/** What of ../shared/LANGUAGE.md a program can see, the face of the document, and the room. */
public final class RulesTest {
    private static final Path SOURCE = Path.of("src/main/java/DownhillWhispers.java");
    private static final Path DOC = Path.of("../shared/DOC.md");
    private static final Set<Tree.Kind> RULED_OUT = Set.of(Tree.Kind.THROW, Tree.Kind.TRY, Tree.Kind.CATCH,
            Tree.Kind.SYNCHRONIZED, Tree.Kind.ASSERT, Tree.Kind.LAMBDA_EXPRESSION, Tree.Kind.MEMBER_REFERENCE,
            Tree.Kind.IMPORT, Tree.Kind.PACKAGE, Tree.Kind.SWITCH_EXPRESSION, Tree.Kind.TYPE_CAST);
    private static final Set<String> LIBRARY = Set.of("Math.min", "Math.max", "Integer.bitCount",
            "System.arraycopy", "length", "charAt");

    private static int wrong = 0;

    private static void right(boolean is, String what) {
        if (!is) {
            wrong++;
            System.out.println("not so: " + what);
        }
    }

    public static void main(String[] args) throws Exception {
        face();
        source();
        room();
        System.out.println(wrong == 0 ? "the rules are kept" : wrong + " rules are not kept");
        if (wrong != 0) {
            System.exit(1);
        }
    }

    // ---- the face

    private static void face() throws Exception {
        Matcher block = Pattern.compile("public final class DownhillWhispers \\{(.*?)\n\\}", Pattern.DOTALL)
                .matcher(Files.readString(DOC));
        right(block.find(), "the document tells a face");
        Set<String> due = new TreeSet<>();
        for (String line : block.group(1).split("\n")) {
            String told = line.replaceAll("\\b(int|long) \\w+(?=[,)])", "$1").replace(";", "").trim();
            if (!told.isEmpty()) {
                due.add(told);
            }
        }
        Set<String> is = new TreeSet<>();
        for (Constructor<?> c : DownhillWhispers.class.getDeclaredConstructors()) {
            is.add(signature(c, "public "));
        }
        for (Method m : DownhillWhispers.class.getDeclaredMethods()) {
            if (!Modifier.isPrivate(m.getModifiers())) {
                is.add(signature(m, "public " + m.getReturnType().getName() + " "));
                right(Modifier.isPublic(m.getModifiers()) && !Modifier.isStatic(m.getModifiers()), m.toString());
            }
        }
        right(due.equals(is), "the face is that of the document: " + is);
        right(due.size() == 48, "48 promises");
        right(DownhillWhispers.class.getModifiers() == (Modifier.PUBLIC | Modifier.FINAL), "public and final");
        for (Field f : DownhillWhispers.class.getDeclaredFields()) {
            right(Modifier.isPrivate(f.getModifiers()), "private: " + f);
        }
        for (Class<?> inside : DownhillWhispers.class.getDeclaredClasses()) {
            right(Modifier.isStatic(inside.getModifiers()), "static: " + inside);
        }
    }

    private static String signature(Executable e, String before) {
        StringBuilder types = new StringBuilder();
        for (Class<?> type : e.getParameterTypes()) {
            types.append(types.length() == 0 ? "" : ", ").append(type.getName());
        }
        return before + e.getName() + "(" + types + ")";
    }

    // ---- the source

    private static void source() throws Exception {
        JavaCompiler compiler = ToolProvider.getSystemJavaCompiler();
        JavacTask task = (JavacTask) compiler.getTask(null, null, null, null, null,
                compiler.getStandardFileManager(null, null, null).getJavaFileObjects(SOURCE));
        CompilationUnitTree unit = task.parse().iterator().next();
        right(unit.getTypeDecls().size() == 1, "one class in the file");
        Scan scan = new Scan(unit);
        scan.scan(unit, null);
        right(scan.classes <= 12, "at most 12 classes");
        for (String name : scan.calls.keySet()) {
            right(scan.depth(name, new HashSet<>()) <= 8, "at most eight deep, no recursion: " + name);
        }
        for (Method m : DownhillWhispers.class.getMethods()) {
            long named = scan.declared.stream().filter(m.getName()::equals).count();
            right(named <= 1, "no private method bears the name of a public one: " + m.getName());
        }
        right(Files.readAllLines(SOURCE).stream().allMatch(l -> l.chars().allMatch(c -> c < 127)), "signs 1 to 127");
    }

    private static final class Scan extends TreeScanner<Void, Void> {
        final CompilationUnitTree unit;
        final Map<String, Set<String>> calls = new HashMap<>();
        final List<String> declared = new java.util.ArrayList<>();
        int classes = 0;
        private String method = "";

        Scan(CompilationUnitTree unit) {
            this.unit = unit;
        }

        @Override
        public Void scan(Tree tree, Void none) {
            if (tree != null) {
                boolean isNarrowing = tree.getKind() == Tree.Kind.TYPE_CAST
                        && ((TypeCastTree) tree).getType().getKind() == Tree.Kind.PRIMITIVE_TYPE;
                right(!RULED_OUT.contains(tree.getKind()) || isNarrowing, tree.getKind() + " is ruled out: " + tree);
            }
            return super.scan(tree, none);
        }

        @Override
        public Void visitClass(ClassTree tree, Void none) {
            classes++;
            long fields = tree.getMembers().stream().filter(m -> m instanceof VariableTree
                    && !((VariableTree) m).getModifiers().getFlags().contains(javax.lang.model.element.Modifier.STATIC))
                    .count();
            right(fields <= 20, "at most 20 fields: " + tree.getSimpleName());
            for (Tree member : tree.getMembers()) {
                if (member instanceof VariableTree) {
                    Set<?> flags = ((VariableTree) member).getModifiers().getFlags();
                    right(!flags.contains(javax.lang.model.element.Modifier.STATIC)
                            || flags.contains(javax.lang.model.element.Modifier.FINAL), "static and final: " + member);
                }
                right(member.getKind() != Tree.Kind.BLOCK, "no initialiser block");
            }
            right(tree.getSimpleName().length() > 0, "no anonymous class");
            return super.visitClass(tree, none);
        }

        @Override
        public Void visitMethod(MethodTree tree, Void none) {
            method = tree.getName().toString();
            if (!method.equals("<init>")) {
                declared.add(method);
            }
            calls.putIfAbsent(method, new HashSet<>());
            right(tree.getParameters().size() <= 7, "at most 7 parameters: " + method);
            right(tree.toString().split("\n").length <= 60, "at most 60 lines: " + method);
            return super.visitMethod(tree, none);
        }

        @Override
        public Void visitMethodInvocation(MethodInvocationTree tree, Void none) {
            String called = tree.getMethodSelect().toString();
            String last = called.substring(called.lastIndexOf('.') + 1);
            calls.get(method).add(LIBRARY.contains(called) ? called : last);
            return super.visitMethodInvocation(tree, none);
        }

        /** By names alone, so that methods of one name count as one; what isn't declared is library. */
        int depth(String name, Set<String> open) {
            if (!declared.contains(name)) {
                right(LIBRARY.contains(name) || name.equals("super") || name.equals("<init>"), "library: " + name);
                return 0;
            }
            if (!open.add(name)) {
                return 1000;
            }
            int most = 0;
            for (String called : calls.get(name)) {
                most = Math.max(most, depth(called, open));
            }
            open.remove(name);
            return most + 1;
        }
    }

    // ---- the room

    /** Every call once or more on a full town: none of them makes an object. */
    private static void room() {
        ThreadMXBean threads = (ThreadMXBean) ManagementFactory.getThreadMXBean();
        long id = Thread.currentThread().getId();
        allCalls(new DownhillWhispers());
        DownhillWhispers x = new DownhillWhispers();
        long before = threads.getThreadAllocatedBytes(id);
        long nothing = threads.getThreadAllocatedBytes(id) - before;
        before = threads.getThreadAllocatedBytes(id);
        allCalls(x);
        long made = threads.getThreadAllocatedBytes(id) - before - nothing;
        right(made == 0, "no call makes an object, but " + made + " bytes were made");
    }

    private static long allCalls(DownhillWhispers x) {
        long sum = x.status(-2);
        for (int b = 0; b < 6; b++) {
            sum += x.feed(0x6c69653b, 4);
        }
        sum += x.feed(0x666962, 3) + x.text();
        sum += x.sheet(0, 16, 40) + x.sheet(1, 16, 40) + x.write(0, 1, -1) + x.copy(0, 0, 1, 1, 20);
        sum += x.fits(0, 5) + x.said(0, 5) + x.says(4, 0) + x.says(0, 0) + x.change(0, 2, 77) + x.of(0, 3);
        sum += x.corner(0, 8) + x.build(3, 2, 1) + x.aunts(64) + x.frost(1) + x.go(1) + x.now(1) + x.merge(2);
        sum += x.ahead(0, 100) + x.loud(15, 100) + x.heard(15) + x.still() + x.harbour(0) + x.loudest(15, 100);
        sum += x.overtakes(0, 1) + x.kindFor(0) + x.goesBy(0) + x.where(0, 1024, 1) + x.places(0, 1024, 1);
        sum += x.weightFor(0, 15, 40) + x.sand(15, 10, 40) + x.costs(15, 10, 40) + x.aunt(40) + x.dearest();
        sum += x.rents() + x.frosts(20) + x.odds(18, 3, 0) + x.seed(5) + x.feed(59, 1) + x.wipe() + x.hold(0, 0);
        sum += x.as(0, 0) + x.load(0) + x.judge(0) + x.image() + x.undo() + x.tear() + x.count(6) + x.status(-1);
        return sum;
    }
}
