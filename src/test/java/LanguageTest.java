import com.sun.source.tree.BlockTree;
import com.sun.source.tree.ClassTree;
import com.sun.source.tree.CompilationUnitTree;
import com.sun.source.tree.ExpressionTree;
import com.sun.source.tree.IdentifierTree;
import com.sun.source.tree.ImportTree;
import com.sun.source.tree.MemberSelectTree;
import com.sun.source.tree.MethodInvocationTree;
import com.sun.source.tree.MethodTree;
import com.sun.source.tree.NewArrayTree;
import com.sun.source.tree.NewClassTree;
import com.sun.source.tree.Tree;
import com.sun.source.tree.VariableTree;
import com.sun.source.util.JavacTask;
import com.sun.source.util.SourcePositions;
import com.sun.source.util.TreePath;
import com.sun.source.util.TreePathScanner;
import com.sun.source.util.Trees;
import java.io.IOException;
import java.lang.reflect.Field;
import java.lang.reflect.Method;
import java.lang.reflect.Modifier;
import java.nio.file.Files;
import java.nio.file.Path;
import java.util.Arrays;
import java.util.EnumSet;
import java.util.List;
import java.util.Map;
import java.util.Set;
import java.util.TreeMap;
import java.util.TreeSet;
import java.util.regex.Matcher;
import java.util.regex.Pattern;
import java.util.stream.Collectors;
import javax.lang.model.element.Element;
import javax.lang.model.element.ElementKind;
import javax.lang.model.element.ExecutableElement;
import javax.tools.JavaCompiler;
import javax.tools.StandardJavaFileManager;
import javax.tools.ToolProvider;

/** The rules of LANGUAGE.md that can be read off the source, and the document's face. */
public final class LanguageTest {
    private static final Set<Tree.Kind> FORBIDDEN = EnumSet.of(Tree.Kind.THROW, Tree.Kind.TRY, Tree.Kind.CATCH,
        Tree.Kind.SYNCHRONIZED, Tree.Kind.ASSERT, Tree.Kind.LAMBDA_EXPRESSION, Tree.Kind.MEMBER_REFERENCE,
        Tree.Kind.STRING_LITERAL, Tree.Kind.DOUBLE_LITERAL, Tree.Kind.FLOAT_LITERAL);
    private static final Set<String> LIBRARY = Set.of("java.lang.Math.min", "java.lang.Math.max",
        "java.lang.Integer.bitCount", "java.lang.Integer.numberOfTrailingZeros", "java.lang.System.arraycopy",
        "java.util.Arrays.fill", "java.lang.Object.<init>");

    private static int wrong = 0;
    private static int asked = 0;

    private static void must(boolean holds, String what) {
        asked++;
        if (!holds) {
            wrong++;
            System.out.println(what);
        }
    }

    public static void main(String[] args) throws IOException {
        Path source = Path.of(args.length > 0 ? args[0] : "src/main/java/MapDuty.java");
        face();
        rules(source);
        documentsFace(source.toAbsolutePath().normalize());
        System.out.println(asked + " looked at, " + wrong + " wrong");
        if (wrong != 0) {
            System.exit(1);
        }
    }

    private static void face() {
        must(Modifier.isFinal(MapDuty.class.getModifiers()), "the class is not final");
        must(MapDuty.class.getDeclaredConstructors().length == 1, "one constructor");
        Set<String> open = new TreeSet<>();
        for (Method m : MapDuty.class.getDeclaredMethods()) {
            if (!m.isSynthetic() && !Modifier.isPrivate(m.getModifiers())) {
                must(Modifier.isPublic(m.getModifiers()) && !Modifier.isStatic(m.getModifiers()), "not public: " + m);
                open.add(m.getName());
            }
        }
        noPublicName(MapDuty.class, open);
        for (Class<?> inside : MapDuty.class.getDeclaredClasses()) {
            noPublicName(inside, open);
        }
        Set<String> constants = new TreeSet<>();
        for (Field f : MapDuty.class.getDeclaredFields()) {
            if (!Modifier.isPrivate(f.getModifiers())) {
                must(Modifier.isStatic(f.getModifiers()) && Modifier.isFinal(f.getModifiers()), "not a constant: " + f);
                constants.add(f.getName());
            }
        }
        must(constants.equals(Set.of("NONE", "UNKNOWN", "OUTSIDE", "NOT", "FULL")), "the constants: " + constants);
    }

    private static void noPublicName(Class<?> one, Set<String> open) {
        for (Method m : one.getDeclaredMethods()) {
            must(!Modifier.isPrivate(m.getModifiers()) || !open.contains(m.getName()), "a private name is public: " + m);
        }
    }

    /** Each method line of the document's face stands in the class with the same types, and there is no other. */
    private static void documentsFace(Path source) throws IOException {
        Path doc = source.getParent().resolve("../../../../shared/DOC.md").normalize();
        Matcher lines = Pattern.compile("(?m)^    public int (\\w+)\\((.*)\\);$").matcher(Files.readString(doc));
        Set<String> due = new TreeSet<>();
        while (lines.find()) {
            String types = Arrays.stream(lines.group(2).split(", *")).map(p -> p.split(" ")[0]).collect(Collectors.joining(","));
            due.add(lines.group(1) + "(" + types + ")");
        }
        Set<String> got = new TreeSet<>();
        for (Method m : MapDuty.class.getDeclaredMethods()) {
            if (Modifier.isPublic(m.getModifiers())) {
                must(m.getReturnType() == int.class, "answers no int: " + m);
                got.add(m.getName() + Arrays.stream(m.getParameterTypes()).map(Class::getName)
                    .collect(Collectors.joining(",", "(", ")")));
            }
        }
        must(due.size() == 30 && due.equals(got), "the document's face is " + due + ", the class's " + got);
    }

    private static void rules(Path source) throws IOException {
        for (char c : Files.readString(source).toCharArray()) {
            must(c == '\n' || c >= 32 && c < 127, "a sign outside 32 to 126: " + (int) c);
        }
        JavaCompiler compiler = ToolProvider.getSystemJavaCompiler();
        try (StandardJavaFileManager files = compiler.getStandardFileManager(null, null, null)) {
            JavacTask task = (JavacTask) compiler.getTask(null, files, null, List.of("-proc:none"), null,
                files.getJavaFileObjects(source));
            CompilationUnitTree unit = task.parse().iterator().next();
            task.analyze();
            Scan scan = new Scan(Trees.instance(task), unit);
            scan.scan(new TreePath(unit), null);
            must(scan.classes <= 12, "classes: " + scan.classes);
            for (String method : scan.calls.keySet()) {
                must(scan.depth(method, List.of()) <= 8, "calls go deeper than eight from " + method);
            }
        }
    }

    private static final class Scan extends TreePathScanner<Void, Void> {
        private final Trees trees;
        private final CompilationUnitTree unit;
        private final Map<String, Set<String>> calls = new TreeMap<>();
        private int classes;
        private String method;

        Scan(Trees trees, CompilationUnitTree unit) {
            this.trees = trees;
            this.unit = unit;
        }

        /** Recursion answers more than any limit. */
        int depth(String from, List<String> above) {
            if (above.contains(from)) {
                return 1000;
            }
            List<String> here = new java.util.ArrayList<>(above);
            here.add(from);
            int most = 0;
            for (String to : calls.getOrDefault(from, Set.of())) {
                most = Math.max(most, depth(to, here));
            }
            return most + 1;
        }

        private String where(Tree tree) {
            SourcePositions at = trees.getSourcePositions();
            return " at line " + unit.getLineMap().getLineNumber(at.getStartPosition(unit, tree));
        }

        @Override
        public Void scan(Tree tree, Void v) {
            if (tree != null) {
                must(!FORBIDDEN.contains(tree.getKind()), "forbidden " + tree.getKind() + where(tree));
            }
            return super.scan(tree, v);
        }

        @Override
        public Void visitImport(ImportTree tree, Void v) {
            must(tree.toString().trim().equals("import java.util.Arrays;"), "import" + where(tree));
            return super.visitImport(tree, v);
        }

        @Override
        public Void visitClass(ClassTree tree, Void v) {
            classes++;
            int fields = 0;
            for (Tree member : tree.getMembers()) {
                must(!(member instanceof BlockTree), "an initialiser block" + where(tree));
                if (member instanceof VariableTree field) {
                    Set<javax.lang.model.element.Modifier> flags = field.getModifiers().getFlags();
                    boolean isStatic = flags.contains(javax.lang.model.element.Modifier.STATIC);
                    must(!isStatic || flags.contains(javax.lang.model.element.Modifier.FINAL), "a static field that is not final"
                        + where(field));
                    fields += isStatic ? 0 : 1;
                }
            }
            must(fields <= 20, "fields: " + fields + where(tree));
            if (classes > 1) {
                Set<javax.lang.model.element.Modifier> flags = tree.getModifiers().getFlags();
                must(flags.contains(javax.lang.model.element.Modifier.STATIC), "a class that is not static" + where(tree));
                must(flags.contains(javax.lang.model.element.Modifier.PRIVATE), "a class that is not private" + where(tree));
            }
            return super.visitClass(tree, v);
        }

        @Override
        public Void visitMethod(MethodTree tree, Void v) {
            method = nameOf((ExecutableElement) trees.getElement(getCurrentPath()));
            calls.putIfAbsent(method, new TreeSet<>());
            must(tree.getParameters().size() <= 7, "more than seven parameters" + where(tree));
            SourcePositions at = trees.getSourcePositions();
            long lines = unit.getLineMap().getLineNumber(at.getEndPosition(unit, tree))
                - unit.getLineMap().getLineNumber(at.getStartPosition(unit, tree)) + 1;
            must(lines <= 60, lines + " lines" + where(tree));
            super.visitMethod(tree, v);
            method = null;
            return null;
        }

        @Override
        public Void visitMethodInvocation(MethodInvocationTree tree, Void v) {
            Element called = trees.getElement(new TreePath(getCurrentPath(), tree.getMethodSelect()));
            must(called != null, "an unknown call" + where(tree));
            if (called instanceof ExecutableElement e) {
                String name = nameOf(e);
                if (name.startsWith("MapDuty")) {
                    calls.computeIfAbsent(method == null ? "fields" : method, k -> new TreeSet<>()).add(name);
                } else {
                    must(LIBRARY.contains(name), "a library call, " + name + where(tree));
                }
            }
            return super.visitMethodInvocation(tree, v);
        }

        @Override
        public Void visitNewClass(NewClassTree tree, Void v) {
            must(method == null || method.endsWith("<init>"), "an object is made outside a constructor" + where(tree));
            must(tree.getClassBody() == null, "an anonymous class" + where(tree));
            return super.visitNewClass(tree, v);
        }

        @Override
        public Void visitNewArray(NewArrayTree tree, Void v) {
            must(method == null || method.endsWith("<init>"), "an array is made outside a constructor" + where(tree));
            return super.visitNewArray(tree, v);
        }

        @Override
        public Void visitIdentifier(IdentifierTree tree, Void v) {
            notFloating(trees.getElement(getCurrentPath()), tree);
            return super.visitIdentifier(tree, v);
        }

        @Override
        public Void visitMemberSelect(MemberSelectTree tree, Void v) {
            notFloating(trees.getElement(getCurrentPath()), tree);
            return super.visitMemberSelect(tree, v);
        }

        private void notFloating(Element element, ExpressionTree tree) {
            if (element != null && (element.getKind() == ElementKind.FIELD || element.getKind() == ElementKind.LOCAL_VARIABLE)) {
                String type = element.asType().toString();
                must(Set.of("int", "long", "boolean", "int[]").contains(type) || type.startsWith("MapDuty."),
                    "a variable of type " + type + where(tree));
            }
        }

        private static String nameOf(ExecutableElement e) {
            return e.getEnclosingElement() + "." + e.getSimpleName();
        }
    }
}
