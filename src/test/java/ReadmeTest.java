import java.io.IOException;
import java.lang.reflect.Method;
import java.lang.reflect.Modifier;
import java.net.URL;
import java.net.URLClassLoader;
import java.nio.file.Files;
import java.nio.file.Path;
import java.util.ArrayList;
import java.util.List;
import java.util.regex.Matcher;
import java.util.regex.Pattern;
import java.util.stream.Stream;
import javax.tools.ToolProvider;

/** README.md's examples answer as it says, and it names every call of the face and every test. */
public final class ReadmeTest {
    private static final TestKit KIT = new TestKit();
    /** A call, with or without a variable for its answer, and the answer that the comment begins with. */
    private static final Pattern ANSWERED =
        Pattern.compile("(?:(int|boolean|double) (\\w+) = )?(\\w+\\.\\w+\\(.*?\\)); *// (throws \\w+|[-.\\w]+)(?::.*)?");

    public static void main(String[] args) throws Exception {
        String readme = Files.readString(Path.of("README.md"));
        examples(readme);
        names(readme);
        KIT.end("ReadmeTest");
    }

    private static void examples(String readme) throws Exception {
        List<String> shown = new ArrayList<>();
        List<String> due = new ArrayList<>();
        StringBuilder body = new StringBuilder();
        for (String line : exampleLines(readme)) {
            Matcher m = ANSWERED.matcher(line);
            KIT.is("a comment begins with an answer: " + line, line.contains("//"), m.matches());
            if (m.matches()) {
                shown.add(line);
                due.add(m.group(4));
                body.append(m.group(4).startsWith("throws ") ? refused(m.group(3))
                    : m.group(1) == null ? asking(m.group(3)) : keeping(m.group(1), m.group(2), m.group(3)));
            } else {
                body.append(line).append('\n');
            }
        }
        KIT.is("examples with an answer: " + due.size(), due.size() >= 30, true);
        List<?> got = answers(body.toString());
        KIT.is("answers of the examples", got.size(), due.size());
        for (int i = 0; i < got.size(); i++) {
            KIT.is(shown.get(i), got.get(i), due.get(i));
        }
    }

    private static List<String> exampleLines(String readme) {
        List<String> lines = new ArrayList<>();
        Matcher blocks = Pattern.compile("```java\n(.*?)```", Pattern.DOTALL).matcher(readme);
        while (blocks.find()) {
            blocks.group(1).lines().forEach(lines::add);
        }
        return lines;
    }

    private static String refused(String call) {
        return "try { " + call + "; got.add(\"no exception\"); }"
            + " catch (RuntimeException e) { got.add(\"throws \" + e.getClass().getSimpleName()); }\n";
    }

    private static String asking(String call) {
        return "got.add(String.valueOf(" + call + "));\n";
    }

    private static String keeping(String type, String name, String call) {
        return type + " " + name + " = " + call + "; got.add(String.valueOf(" + name + "));\n";
    }

    /** Compiles the lines of the examples into a class, and runs it. */
    private static List<?> answers(String body) throws Exception {
        Path folder = Files.createTempDirectory("readme");
        Path source = folder.resolve("ReadmeExamples.java");
        Path made = folder.resolve("ReadmeExamples.class");
        Files.writeString(source, "public class ReadmeExamples {\npublic static java.util.List<String> run() {\n"
            + "java.util.List<String> got = new java.util.ArrayList<>();\n" + body + "return got;\n}\n}\n");
        try (URLClassLoader loader = new URLClassLoader(new URL[] {folder.toUri().toURL()}, ReadmeTest.class.getClassLoader())) {
            int failed = ToolProvider.getSystemJavaCompiler().run(null, null, null, "-cp", System.getProperty("java.class.path"),
                "-d", folder.toString(), source.toString());
            KIT.is("the compiler's answer", failed, 0);
            return failed == 0 ? (List<?>) loader.loadClass("ReadmeExamples").getMethod("run").invoke(null) : new ArrayList<>();
        } finally {
            Files.deleteIfExists(made);
            Files.deleteIfExists(source);
            Files.deleteIfExists(folder);
        }
    }

    private static void names(String readme) throws IOException {
        for (Method m : StreetMarket.class.getDeclaredMethods()) {
            if (Modifier.isPublic(m.getModifiers())) {
                KIT.is("README.md names " + m.getName(), readme.contains("`" + m.getName() + "`"), true);
            }
        }
        try (Stream<Path> files = Files.list(Path.of("src/test/java"))) {
            for (Path file : files.toList()) {
                String name = file.getFileName().toString().replace(".java", "");
                KIT.is("README.md names " + name, readme.contains("`" + name + "`") || readme.contains("`" + name + "."), true);
            }
        }
    }
}
