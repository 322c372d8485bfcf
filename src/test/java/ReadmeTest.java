import java.io.IOException;
import java.lang.reflect.Method;
import java.lang.reflect.Modifier;
import java.net.URL;
import java.net.URLClassLoader;
import java.nio.file.Files;
import java.nio.file.Path;
import java.util.ArrayList;
import java.util.List;
import java.util.Set;
import java.util.TreeSet;
import java.util.regex.Matcher;
import java.util.regex.Pattern;
import java.util.stream.Stream;
import javax.tools.ToolProvider;

/** What README.md says is so: its lines of Java compile and answer as they say, and it names each call and each test. */
public final class ReadmeTest {
    private static final Pattern BLOCK = Pattern.compile("(?s)```java\n(.*?)```");
    private static final Pattern TOLD =
        Pattern.compile("belt\\.(\\w+)\\((.*)\\); *// (-?\\d+|UNKNOWN|OUTSIDE|STATE|FULL|NONE)(:.*)?");
    private static final Pattern CONSTANT = Pattern.compile("`([A-Z]+)` (?:\\(|is )(-\\d+)");
    private static final Pattern TEST = Pattern.compile("(?m)^\\| `(\\w+Test)` \\|");

    private static final Set<String> calls = new TreeSet<>();

    public static void main(String[] args) throws Exception {
        Path root = Path.of(System.getProperty("project.root", "."));
        String readme = Files.readString(root.resolve("README.md"));
        linesAnswer(readme);
        everyCallIsShown();
        constantsAreNamed(readme);
        everyTestIsNamed(readme, root.resolve("src/test/java"));
        commandStands(readme, root);
        Due.end("ReadmeTest");
    }

    private static void yes(String what, boolean so) {
        Due.is(what, so ? 1 : 0, 1);
    }

    private static void linesAnswer(String readme) throws Exception {
        StringBuilder code = new StringBuilder("public final class Readme {\n")
            .append("    public static void run(java.util.List<Object[]> answers) {\n");
        Matcher block = BLOCK.matcher(readme);
        while (block.find()) {
            for (String line : block.group(1).split("\n")) {
                code.append(asked(line)).append('\n');
            }
        }
        code.append("    }\n}\n");
        List<Object[]> answers = new ArrayList<>();
        run(code.toString(), answers);
        for (Object[] answer : answers) {
            Due.is("README.md: " + answer[0], (Long) answer[1], (Long) answer[2]);
        }
        yes("README.md shows answers", answers.size() > 50);
    }

    /** A line that tells an answer, made such that it hands out what the call answered and what the line says. */
    private static String asked(String line) {
        Matcher told = TOLD.matcher(line);
        if (!told.matches()) {
            boolean free = line.trim().startsWith("belt.write(") && line.startsWith(" ")
                || !line.contains("belt.") || line.startsWith("for ");
            yes("README.md tells what is answered by: " + line, free);
            return line;
        }
        calls.add(told.group(1));
        String call = "belt." + told.group(1) + "(" + told.group(2) + ")";
        String due = Character.isLetter(told.group(3).charAt(0)) ? "ZoneBelt." + told.group(3) : told.group(3);
        return "answers.add(new Object[] {\"" + call.replace("\"", "\\\"") + "\", (long) " + call
            + ", (long) " + due + "});";
    }

    private static void run(String code, List<Object[]> answers) throws Exception {
        Path folder = Files.createTempDirectory("readme");
        Path file = folder.resolve("Readme.java");
        try {
            Files.writeString(file, code);
            Path classes = Path.of(ZoneBelt.class.getProtectionDomain().getCodeSource().getLocation().toURI());
            int failed = ToolProvider.getSystemJavaCompiler().run(null, null, null,
                "-cp", classes.toString(), "-d", folder.toString(), file.toString());
            Due.is("README.md compiles", failed, 0);
            if (failed == 0) {
                try (URLClassLoader loader = new URLClassLoader(new URL[] {folder.toUri().toURL()},
                        ReadmeTest.class.getClassLoader())) {
                    loader.loadClass("Readme").getMethod("run", List.class).invoke(null, answers);
                }
            }
        } finally {
            Files.deleteIfExists(folder.resolve("Readme.class"));
            Files.deleteIfExists(file);
            Files.deleteIfExists(folder);
        }
    }

    private static void everyCallIsShown() {
        // what write answers is shown where it is refused; each loop that writes a text would drown it elsewhere
        for (Method method : ZoneBelt.class.getDeclaredMethods()) {
            if (Modifier.isPublic(method.getModifiers())) {
                yes("README.md shows " + method.getName(), calls.contains(method.getName()));
            }
        }
    }

    private static void constantsAreNamed(String readme) throws Exception {
        Set<String> named = new TreeSet<>();
        Matcher constant = CONSTANT.matcher(readme);
        while (constant.find()) {
            named.add(constant.group(1));
            Due.is("README.md: " + constant.group(1), Integer.parseInt(constant.group(2)),
                ZoneBelt.class.getField(constant.group(1)).getInt(null));
        }
        Due.is("README.md: constants that are named", named.size(), ZoneBelt.class.getFields().length);
    }

    private static void everyTestIsNamed(String readme, Path folder) throws IOException {
        Set<String> named = new TreeSet<>();
        Matcher test = TEST.matcher(readme);
        while (test.find()) {
            named.add(test.group(1));
        }
        Set<String> there = new TreeSet<>();
        try (Stream<Path> files = Files.list(folder)) {
            files.map(file -> file.getFileName().toString()).filter(name -> name.endsWith("Test.java"))
                .forEach(name -> there.add(name.substring(0, name.length() - ".java".length())));
        }
        yes("README.md names the tests " + there + ", not " + named, named.equals(there));
    }

    private static void commandStands(String readme, Path root) {
        yes("README.md tells how to run the tests", readme.contains("```sh\n.ci/run\n```"));
        yes(".ci/run can be run", Files.isExecutable(root.resolve(".ci/run")));
    }
}
