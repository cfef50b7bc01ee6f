import java.io.IOException;
import java.lang.reflect.Method;
import java.lang.reflect.Modifier;
import java.net.URL;
import java.net.URLClassLoader;
import java.nio.file.Files;
import java.nio.file.Path;
import java.util.ArrayList;
import java.util.List;
import java.util.regex.Matcher;
import java.util.regex.Pattern;
import java.util.stream.Stream;
import javax.tools.JavaCompiler;
import javax.tools.ToolProvider;

/** README.md: its examples, as they stand there, answer what is told behind them; it names every call and every test. */
public final class ReadmeTest {
    private static final Pattern BLOCK = Pattern.compile("```java\n(.*?)```", Pattern.DOTALL);
    private static final Pattern ASKED = Pattern.compile("(x\\.\\w+\\(.*\\)); *// (-?\\d+|LOST)\\b.*");
    private static final Path MADE = Path.of("build", "readme");

    private ReadmeTest() {
    }

    public static void main(String[] args) throws IOException, ReflectiveOperationException {
        String page = Files.readString(Path.of("README.md"));
        examples(page);
        names(page);
        Due.end();
    }

    private static void examples(String page) throws IOException, ReflectiveOperationException {
        List<String> calls = new ArrayList<>();
        List<Long> want = new ArrayList<>();
        StringBuilder code = new StringBuilder("public final class ReadmeExamples {\n"
            + "public static void go(java.util.List<Long> got) {\n");
        Matcher block = BLOCK.matcher(page);
        while (block.find()) {
            for (String line : block.group(1).lines().toList()) code.append(asked(line, calls, want)).append('\n');
        }
        List<Long> got = answers(code.append("}\n}\n").toString());
        Due.due("answers of the README", got.size(), want.size());
        for (int p = 0; p < Math.min(got.size(), want.size()); p++) Due.due("README: " + calls.get(p), got.get(p), want.get(p));
    }

    /** The line with its answer kept, if one is told behind it. */
    private static String asked(String line, List<String> calls, List<Long> want) {
        Matcher asked = ASKED.matcher(line);
        if (!asked.matches()) return line;
        calls.add(asked.group(1));
        want.add(asked.group(2).equals("LOST") ? HullCharts.LOST : Long.parseLong(asked.group(2)));
        return "got.add((long) " + asked.group(1) + ");";
    }

    private static List<Long> answers(String code) throws IOException, ReflectiveOperationException {
        Files.createDirectories(MADE);
        Path source = Files.writeString(MADE.resolve("ReadmeExamples.java"), code);
        List<Long> got = new ArrayList<>();
        JavaCompiler compiler = ToolProvider.getSystemJavaCompiler();
        int failed = compiler.run(null, null, null, "-cp", System.getProperty("java.class.path"), "-d", MADE.toString(), source.toString());
        Due.due("the examples compile", failed, 0);
        if (failed != 0) return got;
        try (URLClassLoader loader = new URLClassLoader(new URL[] {MADE.toUri().toURL()})) {
            loader.loadClass("ReadmeExamples").getMethod("go", List.class).invoke(null, got);
        }
        return got;
    }

    private static void names(String page) throws IOException {
        for (Method method : HullCharts.class.getDeclaredMethods()) {
            if (!Modifier.isPublic(method.getModifiers())) continue;
            String name = method.getName();
            Due.isTrue("README tells what " + name + " is for", Pattern.compile("`" + name + "[`(]").matcher(page).find());
            Due.isTrue("README has an example of " + name, page.contains("x." + name + "("));
        }
        try (Stream<Path> tests = Files.list(Path.of("src", "test", "java"))) {
            for (String file : tests.map(path -> path.getFileName().toString()).toList()) {
                Due.isTrue("README names " + file, page.contains("`" + file.replace(".java", "`")));
            }
        }
        Due.isTrue("README tells the command", page.contains("\n    .ci/run\n"));
    }
}
