import java.io.ByteArrayOutputStream;
import java.io.IOException;
import java.io.PrintStream;
import java.lang.reflect.InvocationTargetException;
import java.lang.reflect.Method;
import java.lang.reflect.Modifier;
import java.net.URL;
import java.net.URLClassLoader;
import java.nio.file.Files;
import java.nio.file.Path;
import java.util.ArrayList;
import java.util.Comparator;
import java.util.List;
import java.util.regex.Matcher;
import java.util.regex.Pattern;
import java.util.spi.ToolProvider;
import java.util.stream.Stream;

/** The use that README.md shows, compiled as it stands there and held against what it says is answered. */
public final class ReadmeTest {
    private static final Check CHECK = new Check();
    private static final Pattern SHOWN = Pattern.compile("```java\n(.*?)```", Pattern.DOTALL);
    private static final Pattern PRINTS = Pattern.compile("\\s*System\\.out\\.println\\((.*)\\);\\s+// ([^:\\s]+): \\S.*");

    public static void main(String[] args) throws IOException, ReflectiveOperationException {
        String readme = Files.readString(Path.of("README.md"));
        String shown = shown(readme);
        List<String> calls = new ArrayList<>();
        List<String> answers = new ArrayList<>();
        said(shown, calls, answers);
        answersAsSaid(calls, answers, printed(shown));
        tellsEveryCall(readme, shown);
        tellsEveryTest(readme);
        CHECK.end();
    }

    private static String shown(String readme) {
        Matcher matcher = SHOWN.matcher(readme);
        StringBuilder all = new StringBuilder();
        int blocks = 0;
        while (matcher.find()) {
            all.append(matcher.group(1));
            blocks++;
        }
        CHECK.due("README.md shows one piece of Java", blocks, 1);
        return all.toString();
    }

    /** No line may print what README.md does not say. */
    private static void said(String shown, List<String> calls, List<String> answers) {
        for (String line : shown.split("\n")) {
            if (line.contains("println")) {
                Matcher matcher = PRINTS.matcher(line);
                boolean says = matcher.matches();
                CHECK.due("an answer is said in" + line, says, true);
                calls.add(says ? matcher.group(1) : line);
                answers.add(says ? matcher.group(2) : "");
            }
        }
        CHECK.due("README.md says answers", answers.isEmpty(), false);
    }

    private static void answersAsSaid(List<String> calls, List<String> answers, List<String> printed) {
        CHECK.due("lines printed", printed.size(), answers.size());
        for (int i = 0; i < Math.min(answers.size(), printed.size()); i++) {
            String told = "README.md line " + i + " " + calls.get(i) + " printed " + printed.get(i) + ", said is " + answers.get(i);
            CHECK.due(told, printed.get(i).equals(answers.get(i)), true);
        }
    }

    private static List<String> printed(String shown) throws IOException, ReflectiveOperationException {
        Path folder = Files.createTempDirectory("readme");
        try {
            Path source = folder.resolve("Show.java");
            Files.writeString(source, shown);
            ToolProvider javac = ToolProvider.findFirst("javac").orElseThrow();
            String main = "src/main/java/SignalHouse.java";
            int code = javac.run(System.out, System.out, "-Xlint:all", "-Werror", "-encoding", "UTF-8",
                "-d", folder.toString(), main, source.toString());
            CHECK.due("javac of what README.md shows", code, 0);
            return code == 0 ? linesOf(folder) : List.of();
        } finally {
            remove(folder);
        }
    }

    /** The classes that were just made, none of this test's own, are those that run. */
    private static List<String> linesOf(Path folder) throws IOException, ReflectiveOperationException {
        URL[] place = {folder.toUri().toURL()};
        ByteArrayOutputStream bytes = new ByteArrayOutputStream();
        PrintStream before = System.out;
        try (URLClassLoader loader = new URLClassLoader(place, ClassLoader.getPlatformClassLoader())) {
            Method show = loader.loadClass("Show").getMethod("main", String[].class);
            System.setOut(new PrintStream(bytes, true));
            show.invoke(null, (Object) new String[0]);
        } catch (InvocationTargetException e) {
            before.println("what README.md shows threw " + e.getCause());
        } finally {
            System.setOut(before);
        }
        return bytes.toString().lines().toList();
    }

    private static void remove(Path folder) throws IOException {
        List<Path> all;
        try (Stream<Path> walk = Files.walk(folder)) {
            all = walk.sorted(Comparator.reverseOrder()).toList();
        }
        for (Path path : all) {
            Files.delete(path);
        }
    }

    private static void tellsEveryCall(String readme, String shown) {
        for (Method method : SignalHouse.class.getDeclaredMethods()) {
            if (Modifier.isPublic(method.getModifiers())) {
                String name = method.getName();
                CHECK.due("README.md shows the use of " + name, shown.contains("house." + name + "("), true);
                CHECK.due("README.md tells of " + name, readme.contains("| `" + name + "("), true);
            }
        }
    }

    private static void tellsEveryTest(String readme) throws IOException {
        try (Stream<Path> tests = Files.list(Path.of("src/test/java"))) {
            for (Path test : tests.sorted().toList()) {
                String name = test.getFileName().toString().replace(".java", "");
                if (name.endsWith("Test")) {
                    CHECK.due("README.md tells of " + name, readme.contains("`" + name + "`"), true);
                }
            }
        }
        CHECK.due("README.md tells of .ci/run", readme.contains("\n.ci/run\n"), true);
    }
}
