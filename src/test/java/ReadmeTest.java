import java.io.IOException;
import java.lang.reflect.Method;
import java.lang.reflect.Modifier;
import java.net.URL;
import java.net.URLClassLoader;
import java.nio.file.Files;
import java.nio.file.Path;
import java.util.ArrayList;
import java.util.Comparator;
import java.util.List;
import java.util.regex.Matcher;
import java.util.regex.Pattern;
import java.util.stream.Stream;
import javax.tools.ToolProvider;

/** What README.md says is so: its example, the calls and the tests it names. Told: the class's source. */
public final class ReadmeTest {
    private static final Pattern EXAMPLE = Pattern.compile("(?s)```java\n(.*?)```");
    private static final Pattern ANSWERED = Pattern.compile("(?m)^(rules\\.\\w+\\(.*\\)); *// (-?\\d+): .*$");
    private static final Pattern COMMAND = Pattern.compile("(?m)^ {4}(javac? .*)$");
    private static final Due DUE = new Due();

    public static void main(String[] args) throws Exception {
        String source = args.length > 0 ? args[0] : "src/main/java/FallingRules.java";
        Path project = Path.of(source).toAbsolutePath().getParent().resolve("../../..").normalize();
        String page = Files.readString(project.resolve("README.md"));
        Path build = Files.createTempDirectory("readme");
        try {
            exampleAnswersAsItSays(page, build);
            commandsWork(page, project, build);
        } finally {
            remove(build);
        }
        allCallsAreNamed(page);
        allTestsAreNamed(page, project);
        DUE.end();
    }

    /** The example is compiled as it stands, each told answer compared with the one that comes. */
    private static void exampleAnswersAsItSays(String page, Path build) throws Exception {
        Matcher example = EXAMPLE.matcher(page);
        if (!example.find()) {
            DUE.holds("there is an example", false);
            return;
        }
        Matcher answered = ANSWERED.matcher(example.group(1));
        DUE.holds("its calls are told with their answers", answered.results().count() > 10);
        String body = answered.replaceAll("answers.add(new Object[] {\"$1\", (long) $1, $2L});");
        DUE.holds("no answer is passed over", !body.contains("//"));
        String code = "public final class ReadmeExample {\n"
            + "public static void run(java.util.List<Object[]> answers) {\n" + body + "}\n}\n";
        Path file = Files.writeString(build.resolve("ReadmeExample.java"), code);
        String path = System.getProperty("java.class.path");
        int failed = ToolProvider.getSystemJavaCompiler().run(
            null, null, null, "-cp", path, "-d", build.toString(), file.toString());
        DUE.answer("the example is compiled", failed, 0);
        if (failed != 0) {
            return;
        }
        List<Object[]> answers = new ArrayList<>();
        try (URLClassLoader loader = new URLClassLoader(new URL[] {build.toUri().toURL()})) {
            loader.loadClass("ReadmeExample").getMethod("run", List.class).invoke(null, answers);
        }
        for (Object[] each : answers) {
            DUE.answer("README.md: " + each[0], (long) each[1], (long) each[2]);
        }
    }

    /** The commands for one test alone, with fewer runs and with a folder that is removed again. */
    private static void commandsWork(String page, Path project, Path build) throws Exception {
        List<String> commands = COMMAND.matcher(page).results().map(found -> found.group(1)).toList();
        DUE.answer("commands told", commands.size(), 2);
        for (String command : commands) {
            String[] words = command.replaceAll("-Druns=\\d+", "-Druns=2").split(" ");
            for (int i = 0; i < words.length; i++) {
                words[i] = words[i].equals("build") ? build.toString() : words[i];
            }
            Process process = new ProcessBuilder(words).directory(project.toFile()).redirectErrorStream(true).start();
            String printed = new String(process.getInputStream().readAllBytes());
            DUE.answer(command + " (" + printed.strip() + ")", process.waitFor(), 0);
        }
    }

    private static void allCallsAreNamed(String page) {
        for (Method method : FallingRules.class.getDeclaredMethods()) {
            if (Modifier.isPublic(method.getModifiers())) {
                DUE.holds(method.getName() + " is named", page.contains("`" + method.getName() + "`"));
            }
        }
    }

    private static void allTestsAreNamed(String page, Path project) throws IOException {
        Path tests = project.resolve("src/test/java");
        try (Stream<Path> files = Files.list(tests)) {
            for (Path file : files.sorted().toList()) {
                String name = file.getFileName().toString().replace(".java", "");
                DUE.holds(name + " is named", page.contains("`" + name + "`"));
            }
        }
        Matcher named = Pattern.compile("`(\\w+Test)`").matcher(page);
        while (named.find()) {
            DUE.holds(named.group(1) + " is there", Files.exists(tests.resolve(named.group(1) + ".java")));
        }
    }

    private static void remove(Path folder) throws IOException {
        try (Stream<Path> inside = Files.walk(folder)) {
            for (Path each : inside.sorted(Comparator.reverseOrder()).toList()) {
                Files.delete(each);
            }
        }
    }
}
