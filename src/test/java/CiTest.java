import java.io.IOException;
import java.nio.file.Files;
import java.nio.file.Path;
import java.util.Comparator;
import java.util.stream.Stream;

/** The script .ci/run passes what is whole, and fails if anything that README.md names is amiss. */
public final class CiTest {
    private static final Check c = new Check("CiTest");
    private static final String CLASS = "public final class MarginPlan {\n    public int one() {\n        return 1;\n    }\n}\n";
    private static final String WARNED = "public final class MarginPlan {\n    public int one(int n) {\n        switch (n) {\n"
        + "            case 0: n++;\n            default: return n;\n        }\n    }\n}\n";

    public static void main(String[] args) throws Exception {
        c.due("all is well", passes(CLASS, test("OneTest", 0), test("Runs", 0)), true);
        c.due("a test of the project fails", passes(CLASS, test("OneTest", 1), test("Runs", 0)), false);
        c.due("a test of the project throws", passes(CLASS, test("OneTest", 0).replace("System.exit(0)", "throw new IllegalStateException()"), test("Runs", 0)), false);
        c.due("a test under ../shared/tests fails", passes(CLASS, test("OneTest", 0), test("Runs", 1)), false);
        c.due("a test under ../shared/tests does not compile", passes(CLASS, test("OneTest", 0), test("Runs", 0) + "}"), false);
        c.due("there is no ../shared/tests", passes(CLASS, test("OneTest", 0), null), false);
        c.due("the class has a warning", passes(WARNED, test("OneTest", 0), test("Runs", 0)), false);
        c.due("the class does not compile", passes(CLASS + "}", test("OneTest", 0), test("Runs", 0)), false);
        c.end();
    }

    private static String test(String name, int code) {
        return "public final class " + name + " {\n    public static void main(String[] args) {\n        System.exit(" + code + ");\n    }\n}\n";
    }

    /** What the script says of a small project of its own, with this class and these tests. */
    private static boolean passes(String main, String own, String shared) throws IOException, InterruptedException {
        Path folder = Files.createTempDirectory("ci");
        try {
            Path script = folder.resolve("main/.ci/run");
            put(script, Files.readString(Path.of(".ci/run")));
            put(folder.resolve("main/src/main/java/MarginPlan.java"), main);
            put(folder.resolve("main/src/test/java/OneTest.java"), own);
            if (shared != null) {
                put(folder.resolve("shared/tests/Runs.java"), shared);
            }
            Process run = new ProcessBuilder("sh", script.toString()).redirectErrorStream(true)
                .redirectOutput(folder.resolve("said").toFile()).start();
            return run.waitFor() == 0;
        } finally {
            clear(folder);
        }
    }

    private static void put(Path file, String text) throws IOException {
        Files.createDirectories(file.getParent());
        Files.writeString(file, text);
    }

    private static void clear(Path folder) throws IOException {
        try (Stream<Path> all = Files.walk(folder)) {
            for (Path one : all.sorted(Comparator.reverseOrder()).toList()) {
                Files.delete(one);
            }
        }
    }
}
