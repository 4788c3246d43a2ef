import java.io.PrintWriter;
import java.io.StringWriter;
import java.nio.file.Files;
import java.nio.file.Path;
import java.util.ArrayList;
import java.util.List;
import java.util.Map;
import java.util.Set;
import java.util.TreeMap;
import java.util.TreeSet;
import java.util.regex.Matcher;
import java.util.regex.Pattern;
import java.util.spi.ToolProvider;

/** Rules of LANGUAGE.md that can be seen in the text of the class. */
public final class SourceRulesTest {
    private static final Check c = new Check("SourceRulesTest");

    public static void main(String[] args) throws Exception {
        String source = Files.readString(Path.of("src/main/java/MarginPlan.java"));
        for (char sign : source.toCharArray()) {
            if (sign > 126) {
                c.due("a sign above 126", sign, 0);
            }
        }
        String bare = source.replaceAll("/\\*(?s:.*?)\\*/", "").replaceAll("//[^\n]*", "");
        String code = bare.replaceAll("\"[^\"\n]*\"", "\"\"").replaceAll("'[^']'", "' '");
        String[] no = {"throw", "try", "catch", "finally", "synchronized", "assert", "package", "protected", "enum\\s", "record\\s",
            "float", "double", "transient", "volatile", "native", "instanceof", "goto", "yield", "var", "System\\.(?!arraycopy)",
            "Thread", "Random", "Object", "Exact"};
        for (String word : no) {
            c.due(word + " stands in it", Pattern.compile("\\b" + word).matcher(code).find(), false);
        }
        c.due("a lambda", code.contains("->"), false);
        c.due("a method reference", code.contains("::"), false);
        c.due("what is made outside of fields: the MARKS' rows, by the constructor", count(code, "(?m)^(?! +(?:private |static |final )*[\\w\\[\\]]+ \\w+ = new).*\\bnew\\b"), 1);
        c.due("texts joined by +", Pattern.compile("\"\\s*\\+|\\+\\s*\"").matcher(code).find(), false);
        Matcher imports = Pattern.compile("import ([^;]*);").matcher(code);
        while (imports.find()) {
            c.due("import " + imports.group(1), imports.group(1).equals("java.util.Arrays"), true);
        }
        Matcher statics = Pattern.compile("\\bstatic (?!final|class)[^;{(]*;").matcher(code);
        c.due("a static field that is not final", statics.find(), false);
        classes(code);
        names(code);
        methods(code);
        calls();
        c.end();
    }

    private static void classes(String code) {
        int many = count(code, "\\bclass \\w+");
        c.due("some twelve classes, there are " + many, many <= 12, true);
        c.due("all inside are private, static and final", count(code, "    private static final class \\w+"), many - 1);
        c.due("a public class", count(code, "(?m)^public final class MarginPlan \\{"), 1);
    }

    /** No private method bears the name of a public one, in any class. */
    private static void names(String code) {
        List<String> face = new ArrayList<>();
        Matcher m = Pattern.compile("    public (?:\\w+ )?(\\w+)\\(").matcher(code);
        while (m.find()) {
            face.add(m.group(1));
        }
        c.due("calls of the face and the constructor", face.size(), 53);
        m = Pattern.compile("(?m)^ +(private |static |final )*(?!return|else|new|public)[\\w\\[\\]]+ (\\w+)\\([^;]*\\) \\{").matcher(code);
        while (m.find()) {
            c.due(m.group(2) + " is a name of the face", face.contains(m.group(2)), false);
        }
    }

    private static void methods(String code) {
        String[] lines = code.split("\n");
        int begun = -1;
        int indent = 0;
        for (int i = 0; i < lines.length; i++) {
            String line = lines[i];
            int depth = line.length() - line.stripLeading().length();
            if (begun < 0 && line.matches(" {4}(?: {4})?(?:public |private |static |final )*[\\w\\[\\]]* ?\\w+\\(.*\\) \\{") && !line.matches(" +(if|for|while|switch)\\b.*")) {
                begun = i;
                indent = depth;
                int given = line.contains("()") ? 0 : line.split(",").length;
                c.due("parameters: " + line, given <= 7, true);
            } else if (begun >= 0 && depth == indent && line.trim().equals("}")) {
                c.due("length of " + lines[begun].trim(), i - begun <= 60, true);
                begun = -1;
            }
        }
    }

    /** Calls go at most eight deep, none calls itself, and a class has some twenty fields: as the compiled class tells it. */
    private static void calls() {
        Map<String, Set<String>> calls = new TreeMap<>();
        Map<String, Integer> fields = new TreeMap<>();
        String at = "";
        String method = "";
        for (String line : compiled().split("\n")) {
            Matcher type = Pattern.compile("(?:public )?final class (\\S+) \\{").matcher(line);
            Matcher member = Pattern.compile("  [^ ].*?([\\w$]+)\\(.*\\);").matcher(line);
            Matcher field = Pattern.compile("  [^ (]+ [^(]*;").matcher(line);
            Matcher call = Pattern.compile(".*// Method (?:([\\w$/]+)\\.)?\"?([\\w<>]+)\"?:.*").matcher(line);
            if (type.lookingAt()) {
                at = type.group(1);
            } else if (member.matches()) {
                method = at + "." + (member.group(1).equals(at) ? "<init>" : member.group(1));
                calls.putIfAbsent(method, new TreeSet<>());
            } else if (call.matches() && !method.isEmpty()) {
                calls.get(method).add((call.group(1) == null ? at : call.group(1)) + "." + call.group(2));
            } else if (field.matches() && !line.contains("static final")) {
                fields.merge(at, 1, Integer::sum);
            }
        }
        c.due("methods that javap tells of, there are " + calls.size(), calls.size() > 150, true);
        c.due("classes with fields, there are " + fields.size(), fields.size() >= 11, true);
        for (String from : calls.keySet()) {
            c.due("calls from " + from + " go at most eight deep", depth(calls, from, 1) <= 8, true);
        }
        fields.forEach((type, many) -> c.due("some twenty fields in " + type + ", there are " + many, many <= 20, true));
    }

    /** How deep calls go from a method on, itself counted; beyond 20 they are taken to go round. */
    private static int depth(Map<String, Set<String>> calls, String from, int level) {
        int most = 1;
        for (String to : calls.getOrDefault(from, Set.of())) {
            most = Math.max(most, level > 20 ? level : 1 + depth(calls, to, level + 1));
        }
        return most;
    }

    private static String compiled() {
        StringBuilder all = new StringBuilder();
        List<Class<?>> types = new ArrayList<>(List.of(MarginPlan.class.getDeclaredClasses()));
        types.add(MarginPlan.class);
        for (Class<?> type : types) {
            StringWriter told = new StringWriter();
            PrintWriter out = new PrintWriter(told);
            ToolProvider.findFirst("javap").orElseThrow().run(out, out, "-p", "-c", "-cp", System.getProperty("java.class.path"), type.getName());
            all.append(told);
        }
        return all.toString();
    }

    private static int count(String text, String pattern) {
        Matcher m = Pattern.compile(pattern).matcher(text);
        int many = 0;
        while (m.find()) {
            many++;
        }
        return many;
    }
}
