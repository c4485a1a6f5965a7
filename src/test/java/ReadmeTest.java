import java.io.IOException;
import java.lang.reflect.Method;
import java.lang.reflect.Modifier;
import java.net.URL;
import java.net.URLClassLoader;
import java.nio.file.Files;
import java.nio.file.Path;
import java.util.regex.Matcher;
import java.util.regex.Pattern;
import javax.tools.ToolProvider;

/** The Java lines of README.md: they compile, each answers the number behind it, and no call of the face is left out. */
public final class ReadmeTest {
    private static final Pattern BLOCK = Pattern.compile("(?s)```java\n(.*?)```");
    private static final Pattern CALL = Pattern.compile("(?m)^(x\\.\\w+\\(.*\\)); +// (-?\\d+)(?=:|$).*$");

    public static void main(String[] args) throws ReflectiveOperationException, IOException {
        Matcher block = BLOCK.matcher(Files.readString(Path.of("README.md")));
        String lines = block.find() ? block.group(1) : "";
        int wrong = leftOut(lines);
        Matcher call = CALL.matcher(lines);
        wrong += answersNotDue(call.replaceAll("due(\"$1\", $1, $2L);"));
        long answers = CALL.matcher(lines).results().count();
        if (answers != lines.lines().filter(line -> line.startsWith("x.")).count()) {
            wrong++;
            System.out.println("a call stands in README.md without its answer");
        }
        System.out.println(answers + " answers of README.md, " + wrong + " wrong");
        if (wrong != 0) {
            System.exit(1);
        }
    }

    private static int leftOut(String lines) {
        int wrong = 0;
        for (Method m : RiverChoice.class.getDeclaredMethods()) {
            if (Modifier.isPublic(m.getModifiers()) && !lines.contains("x." + m.getName() + "(")) {
                wrong++;
                System.out.println("README.md does not tell of " + m.getName());
            }
        }
        return wrong;
    }

    private static int answersNotDue(String lines) throws ReflectiveOperationException, IOException {
        Path room = Files.createTempDirectory("readme");
        Path source = room.resolve("Example.java");
        Files.writeString(source, "public final class Example {\n"
            + "    private static int wrong = 0;\n"
            + "    private static void due(String call, long got, long want) {\n"
            + "        if (got != want) { wrong++; System.out.println(call + \" answered \" + got + \", README.md says \" + want); }\n"
            + "    }\n"
            + "    public static int run() {\n" + lines + "        return wrong;\n    }\n}\n");
        String[] flags = {"-d", room.toString(), "-cp", System.getProperty("java.class.path"), source.toString()};
        if (ToolProvider.getSystemJavaCompiler().run(null, null, null, flags) != 0) {
            System.out.println("the lines of README.md do not compile");
            return 1;
        }
        try (URLClassLoader loader = new URLClassLoader(new URL[] {room.toUri().toURL()})) {
            return (Integer) loader.loadClass("Example").getMethod("run").invoke(null);
        } finally {
            for (String name : new String[] {"Example.class", "Example.java", ""}) {
                Files.deleteIfExists(room.resolve(name));
            }
        }
    }
}
