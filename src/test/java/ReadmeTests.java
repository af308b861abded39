import java.io.IOException;
import java.lang.reflect.InvocationTargetException;
import java.net.URL;
import java.net.URLClassLoader;
import java.nio.file.Files;
import java.nio.file.Path;
import java.util.regex.Matcher;
import java.util.regex.Pattern;
import javax.tools.ToolProvider;

/**
 * What README.md shows in its example is what the class answers: each of its lines "CALL; // ANSWER" is run, the
 * answer being what stands ahead of a colon or of the line's end. Run it in the project's own folder.
 */
public final class ReadmeTests {
    private static final Path README = Path.of("README.md");
    private static final Pattern EXAMPLE = Pattern.compile("```java\n(.*?)```", Pattern.DOTALL);
    private static final Pattern LINE = Pattern.compile("(?:int (\\w+) = )?(x\\.\\w+\\(.*\\)); *// ([^:]+)(?::.*)?");
    private static final String MADE = "ModuleLoft x = new ModuleLoft();";

    private static int checks = 0;
    private static int wrong = 0;

    /** The example calls this one. */
    public static void due(String call, String want, Object got) {
        checks++;
        if (!want.equals(String.valueOf(got))) {
            wrong++;
            System.out.println("README.md: " + call + " answers " + got + ", it says " + want);
        }
    }

    private static String program(String example) {
        StringBuilder text = new StringBuilder("public class Example { public static void main(String[] args) {\n");
        for (String line : example.split("\n")) {
            Matcher parts = LINE.matcher(line);
            if (parts.matches()) {
                text.append(checked(parts.group(1), parts.group(2), parts.group(3)));
            } else {
                due(line, MADE, line);
                text.append(line).append('\n');
            }
        }
        return text.append("} }\n").toString();
    }

    private static String checked(String variable, String call, String answer) {
        String start = "ReadmeTests.due(\"" + call + "\", \"" + answer + "\", ";
        if (variable != null) {
            return "int " + variable + " = " + call + ";\n" + start + variable + ");\n";
        }
        return "try { " + start + call + "); } catch (RuntimeException e) { "
                + start + "\"throws \" + e.getClass().getSimpleName()); }\n";
    }

    private static void run(String program) throws IOException, ReflectiveOperationException {
        Path folder = Files.createTempDirectory("readme");
        Path source = folder.resolve("Example.java");
        Path compiled = folder.resolve("Example.class");
        Files.writeString(source, program);
        int exit = ToolProvider.getSystemJavaCompiler().run(null, null, null,
                "-cp", System.getProperty("java.class.path"), "-d", folder.toString(), source.toString());
        due("compiling", "0", exit);
        if (exit == 0) {
            try (URLClassLoader loader = new URLClassLoader(new URL[] {folder.toUri().toURL()})) {
                loader.loadClass("Example").getMethod("main", String[].class).invoke(null, (Object) new String[0]);
            } catch (InvocationTargetException e) {
                due("the example", "an end", e.getCause());
            }
        }
        Files.deleteIfExists(compiled);
        Files.deleteIfExists(source);
        Files.deleteIfExists(folder);
    }

    public static void main(String[] args) throws IOException, ReflectiveOperationException {
        Matcher example = EXAMPLE.matcher(Files.readString(README));
        boolean isThere = example.find();
        due("an example", "true", isThere);
        if (isThere) {
            run(program(example.group(1)));
        }
        System.out.println("README.md: " + checks + " answers looked at, " + wrong + " are not as due");
        if (wrong != 0) {
            System.exit(1);
        }
    }
}
