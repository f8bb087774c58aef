import java.io.IOException;
import java.lang.reflect.Method;
import java.lang.reflect.Modifier;
import java.net.URL;
import java.net.URLClassLoader;
import java.nio.file.Files;
import java.nio.file.Path;
import java.util.ArrayList;
import java.util.List;
import java.util.TreeSet;
import java.util.regex.Matcher;
import java.util.regex.Pattern;
import java.util.stream.Stream;
import javax.tools.ToolProvider;

/** That what README.md says is so. */
public final class ReadmeTest {
    private static final Pattern ANSWER = Pattern.compile("(war\\.\\w+\\(.*?\\)); +// (true|false|-?\\d+)(:.*)?");

    public static void main(String[] args) throws IOException, ReflectiveOperationException {
        Path root = Path.of(args.length > 0 ? args[0] : ".");
        String page = Files.readString(root.resolve("README.md"));
        List<String> blocks = all(page, "(?s)```java\n(.*?)```");
        Due.is("blocks of Java", blocks.size(), 2);
        play(blocks.get(0), blocks.get(1));
        callsAreTold(page);
        testsAreTold(page, root);
        Due.end();
    }

    private static List<String> all(String text, String pattern) {
        List<String> found = new ArrayList<>();
        Matcher matcher = Pattern.compile(pattern).matcher(text);
        while (matcher.find()) {
            found.add(matcher.group(1));
        }
        return found;
    }

    /** Compiles the method and the war of the page, has it played, and compares the answers with those told there. */
    private static void play(String method, String war) throws IOException, ReflectiveOperationException {
        List<String> told = new ArrayList<>();
        StringBuilder body = new StringBuilder();
        for (String line : war.split("\n")) {
            Matcher matcher = ANSWER.matcher(line);
            Due.is("an answer is told: " + line, matcher.matches(), line.startsWith("war."));
            if (line.startsWith("war.") && matcher.matches()) {
                told.add(matcher.group(1) + " " + matcher.group(2));
                body.append("answers.add(\"").append(matcher.group(1)).append(" \" + ").append(matcher.group(1))
                    .append(");\n");
            } else {
                body.append(line).append('\n');
            }
        }
        List<?> answers = answers("public final class Page {\n" + method
            + "public static java.util.List<String> play() {\n"
            + "java.util.List<String> answers = new java.util.ArrayList<>();\n" + body + "return answers;\n}\n}\n");
        Due.is("calls that the page makes", answers.size(), told.size());
        Due.is("calls enough to learn from", told.size() > 20, true);
        for (int i = 0; i < told.size(); i++) {
            Due.is("the page tells " + told.get(i) + ", it is " + answers.get(i), answers.get(i).equals(told.get(i)), true);
        }
    }

    private static List<?> answers(String source) throws IOException, ReflectiveOperationException {
        Path folder = Files.createTempDirectory("page");
        Path file = folder.resolve("Page.java");
        Files.writeString(file, source);
        int failed = ToolProvider.getSystemJavaCompiler().run(null, null, null, "-proc:none",
            "-cp", System.getProperty("java.class.path"), "-d", folder.toString(), file.toString());
        Due.is("the page does not compile", failed, 0);
        try (URLClassLoader loader = new URLClassLoader(new URL[] {folder.toUri().toURL()})) {
            return failed == 0 ? (List<?>) loader.loadClass("Page").getMethod("play").invoke(null) : List.of();
        } finally {
            Files.deleteIfExists(folder.resolve("Page.class"));
            Files.delete(file);
            Files.delete(folder);
        }
    }

    private static void callsAreTold(String page) {
        TreeSet<String> told = new TreeSet<>();
        for (String row : all(page, "(?m)^\\| [^|]+ \\| (`.*`) \\|$")) {
            for (String name : all(row, "`(\\w+)`")) {
                Due.is("told once: " + name, told.add(name), true);
            }
        }
        TreeSet<String> calls = new TreeSet<>();
        for (Method method : VerandaWar.class.getDeclaredMethods()) {
            if (Modifier.isPublic(method.getModifiers())) {
                calls.add(method.getName());
            }
        }
        Due.is("the page tells all calls, and no other: " + told, told.equals(calls), true);
    }

    private static void testsAreTold(String page, Path root) throws IOException {
        TreeSet<String> told = new TreeSet<>(all(page, "`(\\w+Test)`"));
        TreeSet<String> tests = new TreeSet<>();
        TreeSet<String> others = new TreeSet<>();
        try (Stream<Path> files = Files.list(root.resolve("src/test/java"))) {
            files.map(file -> file.getFileName().toString().replace(".java", ""))
                .forEach(name -> (name.endsWith("Test") ? tests : others).add(name));
        }
        Due.is("the page tells all tests, and no other: " + told, told.equals(tests), true);
        for (String name : others) {
            boolean part = name.startsWith("EdgesOf") && page.contains("`EdgesOf..`");
            Due.is("the page tells of " + name, part || page.contains("`" + name + "`"), true);
        }
        for (String path : List.of(".ci/run", "NOTES.md", "src/main/java/VerandaWar.java")) {
            Due.is("the page names " + path, page.contains(path), true);
            Due.is("there is " + path, Files.exists(root.resolve(path)), true);
        }
        Due.is(".ci/run can be run", Files.isExecutable(root.resolve(".ci/run")), true);
    }
}
