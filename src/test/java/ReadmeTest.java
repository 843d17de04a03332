import java.io.IOException;
import java.lang.reflect.Method;
import java.lang.reflect.Modifier;
import java.net.URL;
import java.net.URLClassLoader;
import java.nio.file.Files;
import java.nio.file.Path;
import java.util.ArrayList;
import java.util.List;
import java.util.Map;
import java.util.Set;
import java.util.TreeSet;
import java.util.regex.Matcher;
import java.util.regex.Pattern;
import java.util.stream.Stream;
import javax.tools.ToolProvider;

/** README.md: its code is run as it stands there, and each answer that it names is the one that the class gives. */
public final class ReadmeTest {
    private static final Map<String, Integer> WORDS = Map.of("NONE", Due.NONE, "UNKNOWN", Due.UNKNOWN,
        "OUTSIDE", Due.OUTSIDE, "NOT", Due.NOT, "FULL", Due.FULL);
    private static final Pattern BLOCK = Pattern.compile("(?ms)^```java\\n(.*?)^```$");
    private static final Pattern CALL = Pattern.compile("(x\\.(\\w+)\\(.*?\\)); +// (-?\\d+|[A-Z]+): \\S.*");

    private static final Due DUE = new Due();

    public static void main(String[] args) throws IOException, ReflectiveOperationException {
        String page = Files.readString(Path.of("README.md"));
        namedAnswers(page);
        namedTests(page);
        DUE.end();
    }

    private static void namedAnswers(String page) throws IOException, ReflectiveOperationException {
        List<String> calls = new ArrayList<>();
        List<Integer> named = new ArrayList<>();
        Set<String> methods = new TreeSet<>();
        Set<String> words = new TreeSet<>();
        StringBuilder code = new StringBuilder();
        for (String line : codeOf(page)) {
            Matcher call = CALL.matcher(line);
            if (call.matches()) {
                code.append("got[").append(calls.size()).append("] = ").append(call.group(1)).append(";\n");
                calls.add(call.group(1));
                methods.add(call.group(2));
                words.add(WORDS.containsKey(call.group(3)) ? call.group(3) : "a number");
                named.add(numberOf(call.group(3)));
            } else {
                DUE.same("a call with its answer in '" + line + "'", line.startsWith("x.") ? "none" : "", "");
                code.append(line).append('\n');
            }
        }
        DUE.same("the calls that README.md shows", methods.toString(), publicMethods().toString());
        Set<String> allWords = new TreeSet<>(WORDS.keySet());
        allWords.add("a number");
        DUE.same("the answers that README.md shows", words.toString(), allWords.toString());
        int[] got = answersOf(code.toString(), calls.size());
        for (int n = 0; n < got.length; n++) {
            DUE.is("README.md: " + calls.get(n) + " (answer " + n + ")", got[n], named.get(n));
        }
    }

    private static List<String> codeOf(String page) {
        List<String> lines = new ArrayList<>();
        Matcher blocks = BLOCK.matcher(page);
        while (blocks.find()) {
            lines.addAll(blocks.group(1).lines().toList());
        }
        return lines;
    }

    private static int numberOf(String answer) {
        if (WORDS.containsKey(answer)) {
            return WORDS.get(answer);
        }
        return Integer.parseInt(answer);
    }

    private static Set<String> publicMethods() {
        Set<String> names = new TreeSet<>();
        for (Method m : MapDuty.class.getDeclaredMethods()) {
            if (Modifier.isPublic(m.getModifiers())) {
                names.add(m.getName());
            }
        }
        return names;
    }

    private static int[] answersOf(String code, int many) throws IOException, ReflectiveOperationException {
        Path folder = Files.createTempDirectory("readme");
        try {
            Path source = folder.resolve("Shown.java");
            Files.writeString(source, "public final class Shown {\npublic static int[] answers() {\n"
                + "int[] got = new int[" + many + "];\n" + code + "return got;\n}\n}\n");
            int failed = ToolProvider.getSystemJavaCompiler().run(null, null, null, "-proc:none", "-d", folder.toString(),
                "-cp", System.getProperty("java.class.path"), source.toString());
            DUE.is("compiling the code of README.md", failed, 0);
            if (failed != 0) {
                return new int[0];
            }
            try (URLClassLoader loader = new URLClassLoader(new URL[] {folder.toUri().toURL()})) {
                return (int[]) loader.loadClass("Shown").getMethod("answers").invoke(null);
            }
        } finally {
            Files.deleteIfExists(folder.resolve("Shown.java"));
            Files.deleteIfExists(folder.resolve("Shown.class"));
            Files.deleteIfExists(folder);
        }
    }

    /** The table names each test that there is, and no other; the script that runs them is there. */
    private static void namedTests(String page) throws IOException {
        Set<String> named = new TreeSet<>();
        Matcher rows = Pattern.compile("(?m)^\\| (\\w+Test) \\| ").matcher(page);
        while (rows.find()) {
            DUE.same("named once: " + rows.group(1), named.add(rows.group(1)) ? "once" : "twice", "once");
        }
        Set<String> there = new TreeSet<>();
        try (Stream<Path> files = Files.list(Path.of("src/test/java"))) {
            files.map(f -> f.getFileName().toString()).filter(f -> f.endsWith("Test.java"))
                .forEach(f -> there.add(f.substring(0, f.length() - ".java".length())));
        }
        DUE.same("the tests that README.md names", named.toString(), there.toString());
        DUE.same("how they are run", page.contains("\n    .ci/run\n") ? "told" : "not told", "told");
        DUE.same(".ci/run", Files.isExecutable(Path.of(".ci/run")) ? "can be run" : "cannot be run", "can be run");
    }
}
