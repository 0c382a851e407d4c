import java.io.File;
import java.io.IOException;
import java.lang.reflect.Method;
import java.lang.reflect.Modifier;
import java.net.URL;
import java.net.URLClassLoader;
import java.nio.file.Files;
import java.nio.file.Path;
import java.util.ArrayList;
import java.util.List;
import java.util.regex.Matcher;
import java.util.regex.Pattern;
import java.util.stream.Stream;
import javax.tools.JavaCompiler;
import javax.tools.ToolProvider;

/** README.md: its examples answer what they say there, it names every call and every test. Run from the project's root. */
public final class ReadmeTest {
    private static final Pattern BLOCK = Pattern.compile("(?ms)^```java\n(.*?)^```$");
    private static final Pattern CALL = Pattern.compile("(x\\.\\w+\\(.*\\));\\s*// (-?\\w+)(:.*)?");
    private static int asked = 0;
    private static int wrong = 0;

    private static void check(boolean good, String what) {
        asked++;
        if (!good) {
            wrong++;
            System.out.println("ReadmeTest: " + what);
        }
    }

    /** The examples' program asks here, so this is seen from it. */
    public static void due(String call, long got, long want) {
        check(got == want, call + " answered " + got + ", README.md says " + want);
    }

    /** The blocks as one program: what is static as it is, else each a block of statements. */
    private static String program(String readme) {
        StringBuilder members = new StringBuilder();
        StringBuilder body = new StringBuilder();
        Matcher block = BLOCK.matcher(readme);
        while (block.find()) {
            if (block.group(1).startsWith("static")) {
                members.append(block.group(1));
                continue;
            }
            body.append("{\n");
            for (String row : block.group(1).split("\n")) body.append(statement(row)).append('\n');
            body.append("}\n");
        }
        return "public final class ReadmeExamples {\n" + members + "public static void all() {\n" + body + "}\n}\n";
    }

    private static String statement(String row) {
        if (!row.startsWith("x.")) return row;
        Matcher call = CALL.matcher(row);
        check(call.matches(), "an example without an answer: " + row);
        return call.matches() ? "ReadmeTest.due(\"" + call.group(1) + "\", " + call.group(1) + ", " + call.group(2) + ");" : "";
    }

    private static void runExamples(String readme) throws Exception {
        Path dir = Files.createTempDirectory("readme");
        Path source = dir.resolve("ReadmeExamples.java");
        Files.writeString(source, program(readme));
        JavaCompiler compiler = ToolProvider.getSystemJavaCompiler();
        String classes = System.getProperty("java.class.path");
        int exit = compiler.run(null, null, null, "-d", dir.toString(), "-cp", classes, "-proc:none", source.toString());
        check(exit == 0, "the examples don't compile");
        if (exit == 0) {
            try (URLClassLoader loader = new URLClassLoader(new URL[] {dir.toUri().toURL()})) {
                loader.loadClass("ReadmeExamples").getMethod("all").invoke(null);
            }
        }
        try (Stream<Path> left = Files.list(dir)) {
            for (Path file : left.toList()) Files.delete(file);
        }
        Files.delete(dir);
    }

    private static void lookForNames(String readme) throws IOException {
        String examples = program(readme);
        for (Method m : DecoderForge.class.getDeclaredMethods()) {
            if (!Modifier.isPublic(m.getModifiers())) continue;
            check(readme.contains("`" + m.getName() + "("), "README.md doesn't tell of " + m.getName());
            boolean shown = examples.contains("x." + m.getName() + "(") || m.getName().equals("wipe");
            check(shown, "README.md has no example of " + m.getName());
        }
        List<String> tests = new ArrayList<>();
        for (String name : new File("src/test/java").list()) {
            if (name.endsWith("Test.java")) tests.add(name.replace(".java", ""));
        }
        for (String name : tests) check(readme.contains("- `" + name + "`: "), "README.md doesn't tell of " + name);
        check(readme.contains("    .ci/run\n"), "README.md doesn't tell how the tests are run");
        check(Files.isExecutable(Path.of(".ci/run")), ".ci/run isn't executable");
    }

    public static void main(String[] args) throws Exception {
        String readme = Files.readString(Path.of("README.md"));
        runExamples(readme);
        lookForNames(readme);
        System.out.println("ReadmeTest: " + asked + " looks, " + wrong + " not as due");
        if (wrong != 0) System.exit(1);
    }
}
