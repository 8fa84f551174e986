import java.io.IOException;
import java.net.URL;
import java.net.URLClassLoader;
import java.nio.file.Files;
import java.nio.file.Path;
import java.util.regex.Matcher;
import java.util.regex.Pattern;
import javax.tools.ToolProvider;

/** What README.md tells of calls holds: its examples are compiled, and each call answers what is told behind it. */
public final class ReadmeTest {
    private static final Pattern BLOCK = Pattern.compile("```java\n(.*?)```", Pattern.DOTALL);
    private static final Pattern CALL = Pattern.compile("(x\\.\\w+\\(.*\\)); +// (-?\\d+|OnlyStrangers\\.NO)(:.*)?");
    private static int calls = 0;
    private static int wrong = 0;

    public static void main(String[] args) throws IOException, ReflectiveOperationException {
        String readme = Files.readString(Path.of("README.md"));
        StringBuilder code = new StringBuilder();
        for (Matcher block = BLOCK.matcher(readme); block.find();) {
            for (String line : block.group(1).split("\n")) {
                code.append(withDue(line)).append("\n");
            }
        }
        run(code.toString());
        if (calls == 0) {
            wrong++;
            System.out.println("README.md tells no call");
        }
        System.out.println("ReadmeTest: " + calls + " calls, " + wrong + " not as told");
        if (wrong != 0) {
            System.exit(1);
        }
    }

    private static String withDue(String line) {
        Matcher call = CALL.matcher(line);
        if (!call.matches()) {
            if (line.contains("//")) {
                wrong++;
                System.out.println("README.md tells no answer: " + line);
            }
            return line;
        }
        return "ReadmeTest.due(\"" + call.group(1).replace("\"", "'") + "\", " + call.group(1) + ", " + call.group(2) + ");";
    }

    private static void run(String code) throws IOException, ReflectiveOperationException {
        Path out = Files.createTempDirectory("readme");
        Path file = out.resolve("ReadmeExample.java");
        Files.writeString(file, "public final class ReadmeExample { public static void run() {\n" + code + "} }\n");
        String classes = System.getProperty("java.class.path");
        int failed = ToolProvider.getSystemJavaCompiler().run(null, null, null, "-cp", classes, "-d", out.toString(),
            file.toString());
        if (failed != 0) {
            wrong++;
            System.out.println("README.md's examples don't compile");
        } else {
            try (URLClassLoader loader = new URLClassLoader(new URL[] {out.toUri().toURL()})) {
                loader.loadClass("ReadmeExample").getMethod("run").invoke(null);
            }
        }
        for (String name : new String[] {"ReadmeExample.class", "ReadmeExample.java", ""}) {
            Files.deleteIfExists(out.resolve(name));
        }
    }

    public static void due(String call, long got, long want) {
        calls++;
        if (got != want) {
            wrong++;
            System.out.println("README.md: " + call + " answered " + got + ", told is " + want);
        }
    }
}
