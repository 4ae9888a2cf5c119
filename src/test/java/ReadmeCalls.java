import java.lang.reflect.InvocationTargetException;
import java.lang.reflect.Method;
import java.net.URL;
import java.net.URLClassLoader;
import java.nio.charset.StandardCharsets;
import java.nio.file.Files;
import java.nio.file.Path;
import java.util.Set;
import java.util.TreeSet;
import java.util.regex.Matcher;
import java.util.regex.Pattern;
import java.util.stream.Stream;
import javax.tools.ToolProvider;

/**
 * The Java that README.md shows is compiled as it stands there, and each call with a number behind it must answer that
 * number; each call of the face must be among them, and each test must be told of.
 */
public final class ReadmeCalls {
    private static final Pattern BLOCK = Pattern.compile("(?s)```java\n(.*?)```");
    private static final Pattern CALL = Pattern.compile("((?:x\\.|)(\\w+)\\(.*\\));\\s+// (-?\\d+)\\b.*");

    private static int asked = 0;
    private static int wrong = 0;

    public static void main(String[] args) throws Exception {
        String readme = Files.readString(Path.of("README.md"), StandardCharsets.UTF_8);
        Set<String> missing = new TreeSet<>();
        for (Method m : KissesOwed.class.getMethods()) {
            if (m.getDeclaringClass() == KissesOwed.class) {
                missing.add(m.getName());
            }
        }
        run(programOf(readme, missing));
        for (String name : missing) {
            wrong("no answer of " + name + "() is told");
        }
        try (Stream<Path> files = Files.list(Path.of("src/test/java"))) {
            for (Path file : files.sorted().toList()) {
                String name = file.getFileName().toString().replace(".java", "");
                if (!readme.contains("`" + name + "`")) {
                    wrong(name + " is not told of");
                }
            }
        }
        System.out.println(wrong == 0 ? asked + " calls answer as README.md says" : wrong + " things are not as README.md says");
        if (wrong != 0) {
            System.exit(1);
        }
    }

    private static void wrong(String what) {
        wrong++;
        System.out.println("README.md: " + what);
    }

    /** What the program made of README.md calls: a call of the face, and what it answered there. */
    public static void answered(String call, long got, long due) {
        asked++;
        if (got != due) {
            wrong(call + " answered " + got + ", told is " + due);
        }
    }

    /** All blocks one behind the other, the methods ahead of the rest; what is told is no longer missing. */
    private static String programOf(String readme, Set<String> missing) {
        StringBuilder methods = new StringBuilder();
        StringBuilder body = new StringBuilder();
        Matcher block = BLOCK.matcher(readme);
        while (block.find()) {
            if (block.group(1).startsWith("static ")) {
                methods.append(block.group(1));
            } else {
                for (String line : block.group(1).split("\n")) {
                    body.append(asking(line, missing)).append('\n');
                }
            }
        }
        return "public final class FromReadme {\n" + methods + "public static void run() {\n" + body + "}\n}\n";
    }

    private static String asking(String line, Set<String> missing) {
        Matcher call = CALL.matcher(line);
        if (call.matches()) {
            missing.remove(call.group(2));
            String quoted = call.group(1).replace("\"", "\\\"");
            return "ReadmeCalls.answered(\"" + quoted + "\", " + call.group(1) + ", " + call.group(3) + "L);";
        }
        if (!line.equals("KissesOwed x = new KissesOwed();")) {
            wrong("no answer is told of " + line);
        }
        return line;
    }

    private static void run(String program) throws Exception {
        Path folder = Files.createTempDirectory("readme");
        Path file = folder.resolve("FromReadme.java");
        try {
            Files.writeString(file, program);
            String classes = System.getProperty("java.class.path");
            int failed = ToolProvider.getSystemJavaCompiler().run(null, null, null, "-cp", classes, "-d", folder.toString(),
                    file.toString());
            if (failed != 0) {
                wrong("its Java does not compile");
                return;
            }
            try (URLClassLoader loader = new URLClassLoader(new URL[] {folder.toUri().toURL()})) {
                loader.loadClass("FromReadme").getMethod("run").invoke(null);
            }
        } catch (InvocationTargetException e) {
            wrong("its Java throws " + e.getCause());
        } finally {
            Files.deleteIfExists(folder.resolve("FromReadme.class"));
            Files.deleteIfExists(file);
            Files.deleteIfExists(folder);
        }
    }
}
