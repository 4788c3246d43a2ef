import java.nio.file.Files;
import java.nio.file.Path;
import java.util.ArrayList;
import java.util.List;
import java.util.regex.Matcher;
import java.util.regex.Pattern;

/** Rules of LANGUAGE.md that can be seen in the text of the class. */
public final class SourceRulesTest {
    private static final Check c = new Check("SourceRulesTest");

    public static void main(String[] args) throws Exception {
        String source = Files.readString(Path.of("src/main/java/MarginPlan.java"));
        for (char sign : source.toCharArray()) {
            if (sign > 126) {
                c.due("a sign above 126", sign, 0);
            }
        }
        String bare = source.replaceAll("/\\*(?s:.*?)\\*/", "").replaceAll("//[^\n]*", "");
        String code = bare.replaceAll("\"[^\"\n]*\"", "\"\"").replaceAll("'[^']'", "' '");
        String[] no = {"throw", "try", "catch", "finally", "synchronized", "assert", "package", "protected", "enum\\s", "record\\s",
            "float", "double", "transient", "volatile", "native", "instanceof", "goto", "yield", "var", "System\\.(?!arraycopy)",
            "Thread", "Random", "Object", "Exact"};
        for (String word : no) {
            c.due(word + " stands in it", Pattern.compile("\\b" + word).matcher(code).find(), false);
        }
        c.due("a lambda", code.contains("->"), false);
        c.due("a method reference", code.contains("::"), false);
        c.due("what is made outside of fields: the MARKS' rows, by the constructor", count(code, "(?m)^(?! +(?:private |static |final )*[\\w\\[\\]]+ \\w+ = new).*\\bnew\\b"), 1);
        c.due("texts joined by +", Pattern.compile("\"\\s*\\+|\\+\\s*\"").matcher(code).find(), false);
        Matcher imports = Pattern.compile("import ([^;]*);").matcher(code);
        while (imports.find()) {
            c.due("import " + imports.group(1), imports.group(1).equals("java.util.Arrays"), true);
        }
        Matcher statics = Pattern.compile("\\bstatic (?!final|class)[^;{(]*;").matcher(code);
        c.due("a static field that is not final", statics.find(), false);
        classes(code);
        names(code);
        methods(code);
        c.end();
    }

    private static void classes(String code) {
        int many = count(code, "\\bclass \\w+");
        c.due("some twelve classes, there are " + many, many <= 12, true);
        c.due("all inside are private, static and final", count(code, "    private static final class \\w+"), many - 1);
        c.due("a public class", count(code, "(?m)^public final class MarginPlan \\{"), 1);
    }

    /** No private method bears the name of a public one, in any class. */
    private static void names(String code) {
        List<String> face = new ArrayList<>();
        Matcher m = Pattern.compile("    public (?:\\w+ )?(\\w+)\\(").matcher(code);
        while (m.find()) {
            face.add(m.group(1));
        }
        c.due("calls of the face and the constructor", face.size(), 53);
        m = Pattern.compile("(?m)^ +(private |static |final )*(?!return|else|new|public)[\\w\\[\\]]+ (\\w+)\\([^;]*\\) \\{").matcher(code);
        while (m.find()) {
            c.due(m.group(2) + " is a name of the face", face.contains(m.group(2)), false);
        }
    }

    private static void methods(String code) {
        String[] lines = code.split("\n");
        int begun = -1;
        int indent = 0;
        for (int i = 0; i < lines.length; i++) {
            String line = lines[i];
            int depth = line.length() - line.stripLeading().length();
            if (begun < 0 && line.matches(" {4}(?: {4})?(?:public |private |static |final )*[\\w\\[\\]]* ?\\w+\\(.*\\) \\{") && !line.matches(" +(if|for|while|switch)\\b.*")) {
                begun = i;
                indent = depth;
                int given = line.contains("()") ? 0 : line.split(",").length;
                c.due("parameters: " + line, given <= 7, true);
            } else if (begun >= 0 && depth == indent && line.trim().equals("}")) {
                c.due("length of " + lines[begun].trim(), i - begun <= 60, true);
                begun = -1;
            }
        }
    }

    private static int count(String text, String pattern) {
        Matcher m = Pattern.compile(pattern).matcher(text);
        int many = 0;
        while (m.find()) {
            many++;
        }
        return many;
    }
}
