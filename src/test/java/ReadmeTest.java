import java.io.File;
import java.io.IOException;
import java.lang.reflect.Method;
import java.net.URL;
import java.net.URLClassLoader;
import java.nio.file.Files;
import java.nio.file.Path;
import java.util.ArrayList;
import java.util.Comparator;
import java.util.List;
import java.util.regex.Matcher;
import java.util.regex.Pattern;
import java.util.stream.Collectors;
import java.util.stream.Stream;
import javax.tools.ToolProvider;

/** README.md: the example's answers are those that the class gives, its commands run, no test is left out. */
public final class ReadmeTest {
    private static final Pattern TOLD = Pattern.compile("\\s*(?:int (\\w+) = )?(x\\.\\w+\\(.*\\));\\s+// (-?\\d+)(?::.*|,)?(?:,.*)?");
    private static int wrong = 0;
    private static int asked = 0;

    /** The example calls this, once for each answer that README.md tells. */
    public static long due(String call, long got, long want) {
        asked++;
        must(got == want, call + " answered " + got + ", README.md says " + want);
        return got;
    }

    private static void must(boolean holds, String what) {
        if (!holds) {
            wrong++;
            System.out.println("README.md: " + what);
        }
    }

    public static void main(String[] args) throws Exception {
        String page = Files.readString(Path.of("README.md"));
        Path dir = Files.createTempDirectory("readme");
        try {
            playExample(page, dir);
            everyMethodIsUsed(page);
            everyTestIsNamed(page);
            commandsRun(page, dir);
        } finally {
            remove(dir);
        }
        System.out.println(wrong == 0 ? "ReadmeTest: " + asked + " answers, all as due" : "ReadmeTest: " + wrong + " not as due");
        if (wrong != 0) {
            System.exit(1);
        }
    }

    // ---- the example

    private static String exampleOf(String page) {
        Matcher m = Pattern.compile("```java\n(.*?)```", Pattern.DOTALL).matcher(page);
        must(m.find(), "no example");
        return m.group(1);
    }

    private static void playExample(String page, Path dir) throws Exception {
        StringBuilder source = new StringBuilder("public final class Example {\n  public static void run() {\n");
        int told = 0;
        for (String line : exampleOf(page).split("\n")) {
            Matcher m = TOLD.matcher(line);
            boolean isTold = m.matches();
            must(isTold || !line.matches(".*;\\s+//.*"), "an answer that can't be read: " + line);
            told += isTold ? 1 : 0;
            source.append(isTold ? checked(m) : line).append('\n');
        }
        Path file = dir.resolve("Example.java");
        Files.writeString(file, source.append("  }\n}\n").toString());
        int failed = ToolProvider.getSystemJavaCompiler().run(null, null, null, "-cp", System.getProperty("java.class.path"),
            "-d", dir.toString(), file.toString());
        must(failed == 0, "the example does not compile");
        if (failed == 0) {
            runExample(dir);
        }
        must(asked == told && told > 30, told + " answers are told, " + asked + " were given");
    }

    private static String checked(Matcher m) {
        String due = "ReadmeTest.due(\"" + m.group(2) + "\", " + m.group(2) + ", " + m.group(3) + "L);";
        return m.group(1) == null ? due : "int " + m.group(1) + " = (int) " + due;
    }

    private static void runExample(Path dir) throws Exception {
        try (URLClassLoader loader = new URLClassLoader(new URL[] {dir.toUri().toURL()}, ReadmeTest.class.getClassLoader())) {
            loader.loadClass("Example").getMethod("run").invoke(null);
        }
    }

    /** Those that the example leaves out are listed here, so that a new one is not forgotten. */
    private static void everyMethodIsUsed(String page) {
        List<String> leftOut = List.of("count", "copy", "passengers");
        String example = exampleOf(page);
        for (Method m : BackSeat.class.getDeclaredMethods()) {
            boolean isPublic = java.lang.reflect.Modifier.isPublic(m.getModifiers());
            must(!isPublic || leftOut.contains(m.getName()) || example.contains("x." + m.getName() + "("),
                "the example leaves out " + m.getName());
        }
    }

    // ---- tests and commands

    private static void everyTestIsNamed(String page) throws IOException {
        try (Stream<Path> files = Files.list(Path.of("src/test/java"))) {
            for (Path file : files.collect(Collectors.toList())) {
                String name = file.getFileName().toString().replace(".java", "");
                must(page.contains("`" + name + "`"), name + " is not named");
            }
        }
        must(page.contains("    .ci/run\n") && new File(".ci/run").canExecute(), ".ci/run");
    }

    /** The commands for one test alone, with another directory for the classes. */
    private static void commandsRun(String page, Path dir) throws Exception {
        List<String> commands = new ArrayList<>();
        Matcher m = Pattern.compile("(?m)^    (javac? .*)$").matcher(page);
        while (m.find()) {
            commands.add(m.group(1).replace(" build", " " + dir.resolve("build")));
        }
        must(commands.size() == 4, commands.size() + " commands");
        for (String command : commands) {
            Process p = new ProcessBuilder("sh", "-c", command).redirectErrorStream(true).start();
            String said = new String(p.getInputStream().readAllBytes());
            must(p.waitFor() == 0, command + ": " + said);
        }
    }

    private static void remove(Path dir) throws IOException {
        try (Stream<Path> all = Files.walk(dir)) {
            for (Path path : all.sorted(Comparator.reverseOrder()).collect(Collectors.toList())) {
                Files.delete(path);
            }
        }
    }
}
