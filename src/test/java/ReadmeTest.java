import java.lang.reflect.Method;
import java.net.URL;
import java.net.URLClassLoader;
import java.nio.file.Files;
import java.nio.file.Path;
import java.util.List;
import java.util.regex.Matcher;
import java.util.regex.Pattern;
import javax.tools.ToolProvider;

/** The examples of README.md are compiled and run as they stand there; each call must answer what is told behind it. */
public final class ReadmeTest {
    private static final Pattern EXAMPLE = Pattern.compile("((?:int \\w+ = )?)(.+?); +// (-?\\d+)(?::.*)?");
    private static final String NEW = "FrescoWall wall = new FrescoWall();";
    private final StringBuilder members = new StringBuilder();
    private final StringBuilder run = new StringBuilder();
    private int examples;

    public static void main(String[] args) throws Exception {
        ReadmeTest test = new ReadmeTest();
        test.read(Files.readAllLines(Path.of("README.md")));
        int wrong = test.compileAndRun();
        System.out.println("ReadmeTest: " + test.examples + " examples, " + wrong + " wrong");
        if (wrong != 0 || test.examples == 0) {
            System.exit(1);
        }
    }

    private void read(List<String> lines) {
        boolean inCode = false;
        boolean inMember = false;
        for (String line : lines) {
            if (line.startsWith("```")) {
                inCode = line.equals("```java");
                inMember = false;
            } else if (inCode) {
                inMember |= line.startsWith("/**");
                if (inMember) {
                    members.append(line).append('\n');
                } else {
                    addExample(line);
                }
            }
        }
    }

    private void addExample(String line) {
        Matcher m = EXAMPLE.matcher(line);
        if (line.equals(NEW)) {
            run.append(line).append('\n');
        } else if (m.matches()) {
            examples++;
            String told = m.group(2).replace("\"", "\\\"");
            run.append(m.group(1)).append("due(\"").append(told).append("\", ").append(m.group(2)).append(", ")
                .append(m.group(3)).append(");\n");
        } else {
            System.out.println("ReadmeTest: a line of an example without an answer: " + line);
            System.exit(1);
        }
    }

    private int compileAndRun() throws Exception {
        Path folder = Files.createTempDirectory("readme");
        Path source = folder.resolve("ReadmeExamples.java");
        Files.writeString(source, "public final class ReadmeExamples {\nstatic int wrong;\n"
            + "static int due(String call, int got, int want) {\nif (got != want) {\nwrong++;\n"
            + "System.out.println(\"README.md: \" + call + \" answered \" + got + \", told is \" + want);\n}\n"
            + "return got;\n}\n" + members + "public static int run() {\n" + run + "return wrong;\n}\n}\n");
        int failed = ToolProvider.getSystemJavaCompiler().run(null, null, null, "-d", folder.toString(),
            "-cp", System.getProperty("java.class.path"), source.toString());
        int wrong = failed != 0 ? 1 : 0;
        if (failed == 0) {
            try (URLClassLoader loader = new URLClassLoader(new URL[] {folder.toUri().toURL()})) {
                Method method = loader.loadClass("ReadmeExamples").getMethod("run");
                wrong = (Integer) method.invoke(null);
            }
        }
        Files.deleteIfExists(folder.resolve("ReadmeExamples.class"));
        Files.delete(source);
        Files.delete(folder);
        return wrong;
    }
}
