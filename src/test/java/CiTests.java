import java.io.File;
import java.io.IOException;
import java.nio.file.Files;
import java.nio.file.Path;
import java.util.ArrayList;
import java.util.Comparator;
import java.util.List;
import java.util.stream.Stream;

/**
 * The command that README.md names runs every test of the project and every test under ../shared/tests, and fails if
 * one fails. It is put into small projects for that, where a test of each kind tells that it has run.
 */
public final class CiTests {
    private static final String CLASS = "public final class PavedYards { public static final int BAD = -1; }\n";
    private static final String GOOD = "System.out.println(\"NAME has run \" + PavedYards.BAD);";
    private static final String FAILS = GOOD + " System.exit(1);";
    private static final String THROWS = GOOD + " throw new IllegalStateException();";
    private static final String UNWRITTEN = "this is no Java;";
    private static int wrong = 0;

    /** A small project; null for a test that is not there. */
    private record Case(String what, String source, String own, String shared, boolean passes) { }

    public static void main(String[] args) throws Exception {
        List<Case> cases = List.of(
            new Case("all pass", CLASS, GOOD, GOOD, true),
            new Case("a test of the project fails", CLASS, FAILS, GOOD, false),
            new Case("a shared test fails", CLASS, GOOD, FAILS, false),
            new Case("a shared test throws", CLASS, GOOD, THROWS, false),
            new Case("a test does not compile", CLASS, UNWRITTEN, GOOD, false),
            new Case("there are no shared tests", CLASS, GOOD, null, false),
            new Case("the class does not compile", "public class {", GOOD, GOOD, false));
        List<Path> places = new ArrayList<>();
        List<Process> runs = new ArrayList<>();
        for (Case c : cases) {
            places.add(build(c));
            runs.add(start(places.get(places.size() - 1)));
        }
        for (int i = 0; i < cases.size(); i++) {
            int code = runs.get(i).waitFor();
            look(cases.get(i), code, Files.readString(places.get(i).resolve("told")));
            clear(places.get(i));
        }
        System.out.println(cases.size() + " small projects, " + wrong + " wrong");
        if (wrong != 0) System.exit(1);
    }

    private static Path build(Case c) throws IOException {
        Path place = Files.createTempDirectory("ci");
        Path run = place.resolve("main/.ci/run");
        Files.createDirectories(run.getParent());
        Files.copy(Path.of(".ci/run"), run);
        if (!run.toFile().setExecutable(true)) throw new IOException("can't make " + run + " executable");
        put(place.resolve("main/src/main/java/PavedYards.java"), c.source);
        // Two of the project's own, so that one that passes does not hide one that fails, wherever it stands.
        putTest(place.resolve("main/src/test/java"), "Aforetime", c.own);
        putTest(place.resolve("main/src/test/java"), "Later", GOOD);
        if (c.shared != null) putTest(place.resolve("shared/tests"), "Shared", c.shared);
        return place;
    }

    private static void putTest(Path folder, String name, String body) throws IOException {
        String text = "public final class NAME { public static void main(String[] args) { BODY } }\n";
        put(folder.resolve(name + ".java"), text.replace("BODY", body).replace("NAME", name));
    }

    private static void put(Path file, String text) throws IOException {
        Files.createDirectories(file.getParent());
        Files.writeString(file, text);
    }

    /** Started from elsewhere: the command finds its project by itself. */
    private static Process start(Path place) throws IOException {
        ProcessBuilder run = new ProcessBuilder(place.resolve("main/.ci/run").toString());
        run.directory(place.toFile()).redirectErrorStream(true).redirectOutput(place.resolve("told").toFile());
        return run.start();
    }

    private static void look(Case c, int code, String told) {
        boolean ranAll = true;
        for (String name : List.of("Aforetime", "Later", "Shared")) ranAll &= told.contains(name + " has run -1");
        if (code == 0 == c.passes && (ranAll || !c.passes)) return;
        wrong++;
        System.out.println(c.what + ": .ci/run ended with " + code + (ranAll ? "" : ", not all tests have run") + "\n" + told);
    }

    private static void clear(Path place) throws IOException {
        try (Stream<Path> all = Files.walk(place)) {
            all.sorted(Comparator.reverseOrder()).map(Path::toFile).forEach(File::delete);
        }
    }
}
