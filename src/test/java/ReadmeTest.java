import java.io.IOException;
import java.io.StringWriter;
import java.io.PrintWriter;
import java.net.URL;
import java.net.URLClassLoader;
import java.nio.file.Files;
import java.nio.file.Path;
import java.util.ArrayList;
import java.util.Comparator;
import java.util.List;
import java.util.Map;
import java.util.TreeMap;
import java.util.TreeSet;
import java.util.regex.Matcher;
import java.util.regex.Pattern;
import java.util.spi.ToolProvider;
import java.util.stream.Stream;

/** What README.md says is so: its lines of Java answer as they tell, its tables are the document's, its list of tests is whole. */
public final class ReadmeTest {
    private static final Check c = new Check("ReadmeTest");
    private static final Pattern BLOCK = Pattern.compile("(?s)```java\n(.*?)```");
    private static final Pattern CALL = Pattern.compile("(x\\..*);\\s+// (-?\\d+|true|false)(?::.*)?");

    public static void main(String[] args) throws Exception {
        String readme = Files.readString(Path.of("README.md"));
        String program = program(readme);
        for (String[] row : answersOf(program)) {
            c.due(row[0], row[1], row[2]);
        }
        tests(readme);
        faults(table(readme, "FAULT"));
        statuses(table(readme, "STATUS"));
        c.end();
    }

    /** The blocks of Java one behind the other in one method; a block that begins with static is a method of its own. */
    private static String program(String readme) {
        StringBuilder lines = new StringBuilder();
        StringBuilder methods = new StringBuilder();
        int calls = 0;
        Matcher block = BLOCK.matcher(readme);
        while (block.find()) {
            if (block.group(1).startsWith("static ")) {
                methods.append(block.group(1));
                continue;
            }
            for (String line : block.group(1).split("\n")) {
                Matcher call = CALL.matcher(line);
                boolean is = call.matches();
                c.due("<" + line + "> tells its answer", is || !line.contains("x.") && !line.contains("//"), true);
                if (is) {
                    calls++;
                    lines.append("all.add(new String[] {").append(quoted(call.group(1))).append(", String.valueOf(").append(call.group(1))
                        .append("), ").append(quoted(call.group(2))).append("});\n");
                } else {
                    lines.append(line).append('\n');
                }
            }
        }
        c.due("there are calls in README.md", calls > 40, true);
        for (String wanted : List.of("new MarginPlan()", "x.book(", "x.rounds(", "x.status()", "x.fault(0)", "x.fault(1)", "x.top()", "x.bottom()")) {
            c.due(wanted + " is shown", lines.indexOf(wanted) >= 0, true);
        }
        return "public final class ReadmeLines {\npublic static java.util.List<String[]> run() {\n"
            + "java.util.List<String[]> all = new java.util.ArrayList<>();\n" + lines + "return all;\n}\n" + methods + "}\n";
    }

    private static String quoted(String text) {
        return "\"" + text.replace("\\", "\\\\").replace("\"", "\\\"") + "\"";
    }

    @SuppressWarnings("unchecked")
    private static List<String[]> answersOf(String program) throws Exception {
        Path folder = Files.createTempDirectory("readme");
        try {
            Path source = folder.resolve("ReadmeLines.java");
            Files.writeString(source, program);
            StringWriter said = new StringWriter();
            PrintWriter out = new PrintWriter(said);
            int code = ToolProvider.findFirst("javac").orElseThrow()
                .run(out, out, "-cp", System.getProperty("java.class.path"), "-d", folder.toString(), source.toString());
            c.due("README.md's lines compile: " + said, code, 0);
            if (code != 0) {
                return new ArrayList<>();
            }
            try (URLClassLoader loader = new URLClassLoader(new URL[] {folder.toUri().toURL()}, ReadmeTest.class.getClassLoader())) {
                return (List<String[]>) loader.loadClass("ReadmeLines").getMethod("run").invoke(null);
            }
        } finally {
            clear(folder);
        }
    }

    private static void clear(Path folder) throws IOException {
        try (Stream<Path> all = Files.walk(folder)) {
            for (Path one : all.sorted(Comparator.reverseOrder()).toList()) {
                Files.delete(one);
            }
        }
    }

    /** The rows of numbers of the table with this head. */
    private static Map<Integer, String> table(String readme, String head) {
        Map<Integer, String> rows = new TreeMap<>();
        int from = readme.indexOf("| " + head + " |");
        Matcher row = Pattern.compile("(?m)^\\| (\\d+) \\| (.*) \\|$").matcher(readme.substring(from, readme.indexOf("\n\n", from)));
        while (row.find()) {
            rows.put(Integer.parseInt(row.group(1)), row.group(2));
        }
        return rows;
    }

    private static void statuses(Map<Integer, String> rows) {
        c.due("STATUS told of", rows.keySet().toString(), "[0, 1, 2, 3, 4, 5, 6, 7, 8, 9, 10, 11]");
        rows.forEach((status, words) -> c.says("Terms 5", status + " " + words + "."));
    }

    private static void faults(Map<Integer, String> rows) {
        c.due("FAULTS told of", rows.keySet().toString(), "[1, 2, 3, 4, 5, 6, 7]");
        rows.forEach((fault, words) -> {
            for (String part : words.split("; ")) {
                boolean told = Doc.says("Terms 1", fault + " " + part) || Doc.says("Terms 4", fault + " " + part);
                c.due("FAULT " + fault + ", " + part + ", is the document's", told, true);
            }
        });
    }

    private static void tests(String readme) throws IOException {
        TreeSet<String> told = new TreeSet<>();
        Matcher row = Pattern.compile("(?m)^\\| `(\\w+)` \\|").matcher(readme);
        while (row.find()) {
            c.due(row.group(1) + " is listed once", told.add(row.group(1)), true);
        }
        TreeSet<String> there = new TreeSet<>();
        try (Stream<Path> files = Files.list(Path.of("src/test/java"))) {
            for (Path file : files.toList()) {
                String name = file.getFileName().toString();
                if (name.endsWith("Test.java")) {
                    there.add(name.substring(0, name.length() - 5));
                }
            }
        }
        c.due("the tests that are listed", told.toString(), there.toString());
    }
}
