import java.io.File;
import java.io.IOException;
import java.lang.reflect.Method;
import java.lang.reflect.Modifier;
import java.net.URL;
import java.net.URLClassLoader;
import java.nio.file.Files;
import java.nio.file.Path;
import java.util.ArrayList;
import java.util.List;
import java.util.Set;
import java.util.TreeSet;
import java.util.regex.Matcher;
import java.util.regex.Pattern;
import javax.tools.ToolProvider;

/** What README.md says is so: its examples compile and answer as it says, and it names every call and every test. */
public final class ReadmeTests {
    private static final Pattern CALL = Pattern.compile("(yards\\.(\\w+)\\(.*\\));\\s+// (-?\\d+)(:.*)?");
    private static final Pattern MADE = Pattern.compile("PavedYards yards = new PavedYards\\(\\);(\\s+//.*)?");
    private static final Pattern TEST = Pattern.compile("- `(\\w+)`:.*");
    private static int asked = 0;
    private static int wrong = 0;

    /** Called by the program that is made of the examples. */
    public static void due(String line, long got, long want) {
        asked++;
        if (got != want) fault(line + " answered " + got);
    }

    private static void fault(String what) {
        wrong++;
        System.out.println(what);
    }

    public static void main(String[] args) throws Exception {
        List<String> page = Files.readAllLines(Path.of("README.md"));
        Set<String> shown = new TreeSet<>();
        run(program(examples(page), shown));
        namesAllCalls(shown);
        namesAllTests(page);
        namesTheCommand(page);
        System.out.println(asked + " answers asked, " + wrong + " wrong");
        if (wrong != 0) System.exit(1);
    }

    private static List<List<String>> examples(List<String> page) {
        List<List<String>> all = new ArrayList<>();
        List<String> open = null;
        for (String line : page) {
            if (line.equals("```java")) open = new ArrayList<>();
            else if (line.equals("```") && open != null) {
                all.add(open);
                open = null;
            } else if (open != null) {
                open.add(line);
            }
        }
        if (all.isEmpty()) fault("no examples");
        return all;
    }

    /** The lines stand as they are, but for the answer, which is put behind the call to be compared. */
    private static String program(List<List<String>> examples, Set<String> shown) {
        StringBuilder text = new StringBuilder("public final class ReadmeProgram {\n");
        text.append("    public static void run() {\n");
        for (List<String> example : examples) {
            text.append("        {\n");
            for (String line : example) {
                Matcher call = CALL.matcher(line);
                if (call.matches()) {
                    shown.add(call.group(2));
                    String told = line.replace("\\", "\\\\").replace("\"", "\\\"");
                    text.append("        ReadmeTests.due(\"").append(told).append("\", ").append(call.group(1)).append(", ").append(call.group(3)).append("L);\n");
                } else if (MADE.matcher(line).matches()) {
                    text.append("        ").append(line).append('\n');
                } else {
                    fault("neither a call with its answer nor a new object: " + line);
                }
            }
            text.append("        }\n");
        }
        return text.append("    }\n}\n").toString();
    }

    private static void run(String program) throws Exception {
        Path dir = Files.createTempDirectory("readme");
        try {
            Path source = dir.resolve("ReadmeProgram.java");
            Files.writeString(source, program);
            String paths = System.getProperty("java.class.path");
            if (ToolProvider.getSystemJavaCompiler().run(null, null, null, "-cp", paths, "-d", dir.toString(), source.toString()) != 0) {
                fault("the examples do not compile");
                return;
            }
            try (URLClassLoader loader = new URLClassLoader(new URL[] {dir.toUri().toURL()}, ReadmeTests.class.getClassLoader())) {
                loader.loadClass("ReadmeProgram").getMethod("run").invoke(null);
            }
        } finally {
            clear(dir);
        }
    }

    private static void clear(Path dir) throws IOException {
        File[] files = dir.toFile().listFiles();
        if (files != null) for (File file : files) Files.delete(file.toPath());
        Files.delete(dir);
    }

    private static void namesAllCalls(Set<String> shown) {
        for (Method call : PavedYards.class.getDeclaredMethods()) {
            if (Modifier.isPublic(call.getModifiers()) && !shown.contains(call.getName())) fault("no example shows " + call.getName());
        }
    }

    private static void namesAllTests(List<String> page) {
        Set<String> named = new TreeSet<>();
        for (String line : page) {
            Matcher test = TEST.matcher(line);
            if (test.matches()) named.add(test.group(1) + ".java");
        }
        String[] files = new File("src/test/java").list();
        Set<String> there = files == null ? Set.of() : new TreeSet<>(List.of(files));
        if (!named.equals(there)) fault("tests named: " + named + ", tests there: " + there);
    }

    private static void namesTheCommand(List<String> page) {
        if (!page.contains("    .ci/run")) fault("the command is not named");
        if (!new File(".ci/run").canExecute()) fault(".ci/run can't be run");
    }
}
