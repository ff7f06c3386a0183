import java.nio.file.Files;
import java.nio.file.Path;
import java.util.ArrayList;
import java.util.List;
import java.util.Set;
import java.util.TreeSet;
import java.util.regex.Matcher;
import java.util.regex.Pattern;

/** What of ../shared/LANGUAGE.md can be seen in the text of the program. */
public final class LanguageTest {
    private static final Check CHECK = new Check("LanguageTest");
    private static final Pattern METHOD = Pattern.compile(
        "^( {4}| {8})((?:public |private |static |final )*)(?:[A-Za-z\\[\\]]+ )?([a-zA-Z]+)\\(([^)]*)\\) \\{$");

    public static void main(String[] args) throws Exception {
        List<String> lines = Files.readAllLines(Path.of("src/main/java/FrescoWall.java"));
        words(lines);
        methods(lines);
        CHECK.end();
    }

    private static void words(List<String> lines) {
        Pattern banned = Pattern.compile("\\b(throw|throws|try|catch|synchronized|assert|import|package|var|[a-zA-Z]*Exact"
            + "|System|Random|Object|hashCode|equals|toString)\\b|->|::|\\bstatic \\{");
        int classes = 0;
        for (String line : lines) {
            String code = line.trim().startsWith("*") || line.trim().startsWith("/") ? "" : line;
            CHECK.due("banned in: " + line, banned.matcher(code).find() ? 1 : 0, 0);
            CHECK.due("signs in: " + line, line.chars().allMatch(c -> c >= 32 && c < 127) ? 0 : 1, 0);
            classes += code.contains(" class ") ? 1 : 0;
        }
        CHECK.due("classes are twelve at most", Math.max(classes, 12), 12);
    }

    private static void methods(List<String> lines) {
        Set<String> open = new TreeSet<>();
        List<String> hidden = new ArrayList<>();
        int begin = 0;
        String name = "";
        for (int k = 0; k < lines.size(); k++) {
            Matcher m = METHOD.matcher(lines.get(k));
            if (m.matches()) {
                begin = k;
                name = m.group(3);
                int parameters = m.group(4).isEmpty() ? 0 : m.group(4).split(",").length;
                CHECK.due("parameters of " + name, Math.max(parameters, 7), 7);
                if (m.group(2).contains("public")) {
                    open.add(name);
                } else {
                    hidden.add(name);
                }
            }
            if (lines.get(k).equals("    }") || lines.get(k).equals("        }")) {
                CHECK.due("length of " + name, begin > 0 && k - begin > 60 ? k - begin : 0, 0);
                begin = 0;
            }
        }
        CHECK.due("open methods and the constructor", open.size(), 38);
        for (String other : hidden) {
            CHECK.due("a hidden method has an open one's name: " + other, open.contains(other) ? 1 : 0, 0);
        }
    }
}
