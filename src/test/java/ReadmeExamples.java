import java.io.File;
import java.lang.reflect.Field;
import java.lang.reflect.Method;
import java.lang.reflect.Modifier;
import java.net.URL;
import java.net.URLClassLoader;
import java.nio.charset.StandardCharsets;
import java.nio.file.Files;
import java.nio.file.Path;
import java.util.ArrayList;
import java.util.List;
import java.util.regex.Matcher;
import java.util.regex.Pattern;
import javax.tools.JavaCompiler;
import javax.tools.ToolProvider;

/** What README.md says is so: its examples answer what stands behind them, and it names all calls, constants and tests. */
public final class ReadmeExamples {
    private static final Pattern BLOCK = Pattern.compile("(?m)^```java\n((?:.*\n)*?)```$");
    private static final Pattern CALL = Pattern.compile("(int \\w+ = )?(.+\\));\\s*// (-?\\d+|[A-Z]+)(:.*)?");

    private static int wrong = 0;
    private static int asked = 0;

    public static void main(String[] args) throws Exception {
        String page = Files.readString(Path.of("README.md"), StandardCharsets.UTF_8);
        checkFaceNamed(page);
        checkTestsNamed(page);
        runExamples(page);
        System.out.println(asked + " examples, " + wrong + " things not as README.md says");
        if (wrong != 0 || asked == 0) {
            System.exit(1);
        }
    }

    private static void refuse(boolean broken, String what) {
        if (broken) {
            wrong++;
            System.out.println(what);
        }
    }

    /** The examples call this; it is public since they are loaded apart from it. */
    public static void due(String call, int got, int want) {
        asked++;
        refuse(got != want, "README.md: " + call + " answered " + got + ", the page says " + want);
    }

    private static void checkFaceNamed(String page) {
        for (Method m : JugMemory.class.getDeclaredMethods()) {
            if (Modifier.isPublic(m.getModifiers())) {
                String arguments = m.getParameterCount() == 0 ? "" : "\\w+" + ", \\w+".repeat(m.getParameterCount() - 1);
                boolean named = Pattern.compile("\\| `" + m.getName() + "\\(" + arguments + "\\)` \\|").matcher(page).find();
                refuse(!named, "README.md does not tell of " + m.getName());
            }
        }
        for (Field f : JugMemory.class.getDeclaredFields()) {
            refuse(Modifier.isPublic(f.getModifiers()) && !page.contains("`" + f.getName() + "`"), "README.md does not tell of " + f.getName());
        }
    }

    private static void checkTestsNamed(String page) {
        String tests = page.substring(page.indexOf("\n## Tests"));
        List<String> there = new ArrayList<>();
        for (File f : new File("src/test/java").listFiles()) {
            String name = f.getName().replace(".java", "");
            there.add(name);
            refuse(!tests.contains("`" + name + "`"), "README.md does not tell of the test " + name);
        }
        Matcher named = Pattern.compile("`([A-Z][a-z]+[A-Z]\\w*)`").matcher(tests);
        while (named.find()) {
            refuse(!there.contains(named.group(1)), "README.md tells of a test that is not there: " + named.group(1));
        }
    }

    // ---- the examples, as one program

    private static void runExamples(String page) throws Exception {
        Path room = Files.createTempDirectory("readme");
        Path source = room.resolve("Examples.java");
        Files.writeString(source, program(page), StandardCharsets.UTF_8);
        JavaCompiler compiler = ToolProvider.getSystemJavaCompiler();
        String classes = System.getProperty("java.class.path");
        int failed = compiler.run(null, null, null, "-encoding", "UTF-8", "-cp", classes, "-d", room.toString(), source.toString());
        refuse(failed != 0, "the examples of README.md do not compile");
        if (failed == 0) {
            try (URLClassLoader loader = new URLClassLoader(new URL[] {room.toUri().toURL()}, ReadmeExamples.class.getClassLoader())) {
                loader.loadClass("Examples").getMethod("run").invoke(null);
            }
        }
        for (File f : room.toFile().listFiles()) {
            Files.delete(f.toPath());
        }
        Files.delete(room);
    }

    /** Blocks that begin with static are methods; the others, one behind the other, are the run. */
    private static String program(String page) {
        StringBuilder methods = new StringBuilder();
        StringBuilder run = new StringBuilder();
        Matcher block = BLOCK.matcher(page);
        while (block.find()) {
            if (block.group(1).startsWith("static ")) {
                methods.append(block.group(1));
                continue;
            }
            for (String line : block.group(1).split("\n")) {
                run.append(asked(line)).append('\n');
            }
        }
        return "public class Examples {\n" + methods + "public static void run() {\n" + run + "}\n}\n";
    }

    /** A line of the run, with its answer compared; a call without an answer behind it tells nothing, so it is refused. */
    private static String asked(String line) {
        Matcher m = CALL.matcher(line);
        if (!m.matches()) {
            refuse(!line.equals("JugMemory x = new JugMemory();"), "README.md tells no answer: " + line);
            return line;
        }
        String want = m.group(3).matches("[A-Z]+") ? "JugMemory." + m.group(3) : m.group(3);
        String value = m.group(1) == null ? m.group(2) : m.group(1).split(" ")[1];
        String ahead = m.group(1) == null ? "" : m.group(1) + m.group(2) + "; ";
        return ahead + "ReadmeExamples.due(\"" + m.group(2).replace("\\", "\\\\").replace("\"", "\\\"") + "\", " + value + ", " + want + ");";
    }
}
