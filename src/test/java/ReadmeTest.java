import java.io.IOException;
import java.net.URL;
import java.net.URLClassLoader;
import java.nio.file.Files;
import java.nio.file.Path;
import java.util.List;
import java.util.Objects;
import java.util.regex.Matcher;
import java.util.regex.Pattern;
import javax.tools.ToolProvider;

/**
 * The example of README.md, compiled as it stands there, so that the two can't come apart: each
 * call must give the answer that is written behind it.
 */
public final class ReadmeTest {
    private static final Pattern NEW = Pattern.compile("OffsetHeap heap = new OffsetHeap\\(\\d+, \\d+\\);.*");
    private static final Pattern CALL =
        Pattern.compile("(?:int (\\w+) = )?(heap\\.\\w+\\([^()]*\\)); +// (-?\\d+|true|false)(?:: .*)?");
    private static int calls = 0;
    private static int wrong = 0;

    /** What the compiled example calls, once for each of its answers. */
    public static void due(String call, Object got, Object want) {
        calls++;
        if (!Objects.equals(got, want)) {
            wrong++;
            System.out.println(call + " answered " + got + ", README.md says " + want);
        }
    }

    public static void main(String[] args) throws IOException, ReflectiveOperationException {
        List<String> lines = example();
        runCompiled(program(lines));
        if (calls != lines.size() - 1) {
            wrong++;
            System.out.println("README.md's example has " + lines.size() + " lines, but made " + calls + " calls");
        }
        System.out.println(wrong == 0 ? "the example's answers are right" : "the example of README.md is wrong");
        if (wrong != 0) {
            System.exit(1);
        }
    }

    private static List<String> example() throws IOException {
        List<String> all = Files.readAllLines(Path.of("README.md"));
        int begin = all.indexOf("```java") + 1;
        if (begin == 0) {
            throw new IllegalStateException("README.md has no example");
        }
        List<String> rest = all.subList(begin, all.size());
        return rest.subList(0, rest.indexOf("```"));
    }

    private static String program(List<String> lines) {
        StringBuilder text = new StringBuilder("public final class ReadmeExample {\n    public static void run() {\n");
        for (int i = 0; i < lines.size(); i++) {
            text.append(i == 0 ? first(lines.get(i)) : checked(lines.get(i))).append('\n');
        }
        return text.append("    }\n}\n").toString();
    }

    private static String first(String line) {
        if (!NEW.matcher(line).matches()) {
            throw new IllegalStateException("the example begins with no new object: " + line);
        }
        return line;
    }

    private static String checked(String line) {
        Matcher m = CALL.matcher(line);
        if (!m.matches()) {
            throw new IllegalStateException("no call with an answer: " + line);
        }
        String name = m.group(1);
        String call = m.group(2);
        String kept = name == null ? "" : "int " + name + " = " + call + "; ";
        return kept + "ReadmeTest.due(\"" + call + "\", " + (name == null ? call : name) + ", " + m.group(3) + ");";
    }

    private static void runCompiled(String program) throws IOException, ReflectiveOperationException {
        Path place = Files.createTempDirectory("readme");
        Path source = place.resolve("ReadmeExample.java");
        Path classFile = place.resolve("ReadmeExample.class");
        try {
            Files.writeString(source, program);
            int refused = ToolProvider.getSystemJavaCompiler().run(null, null, null, "-cp",
                System.getProperty("java.class.path"), "-d", place.toString(), source.toString());
            if (refused != 0) {
                throw new IllegalStateException("README.md's example does not compile");
            }
            try (URLClassLoader loader = new URLClassLoader(new URL[] {place.toUri().toURL()})) {
                loader.loadClass("ReadmeExample").getMethod("run").invoke(null);
            }
        } finally {
            Files.deleteIfExists(source);
            Files.deleteIfExists(classFile);
            Files.delete(place);
        }
    }
}
