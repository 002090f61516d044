import java.net.URL;
import java.net.URLClassLoader;
import java.nio.charset.StandardCharsets;
import java.nio.file.Files;
import java.nio.file.Path;
import java.util.ArrayList;
import java.util.List;
import java.util.regex.Matcher;
import java.util.regex.Pattern;
import javax.tools.JavaCompiler;
import javax.tools.ToolProvider;

/**
 * The lines of Java in README.md, one behind the other: they compile, and each whose
 * comment begins with an answer gives it.
 */
public final class ReadmeTest {
    private static final Pattern BLOCK = Pattern.compile("```java\n(.*?)```", Pattern.DOTALL);
    private static final Pattern ANSWERED = Pattern.compile("\\w+ (\\w+) = .*; +// (-?\\d+|true|false)\\b.*");

    public static void main(String[] args) throws Exception {
        String readme = Files.readString(Path.of("README.md"), StandardCharsets.UTF_8);
        List<String> helpers = new ArrayList<>();
        List<String> lines = new ArrayList<>();
        Matcher block = BLOCK.matcher(readme);
        while (block.find()) {
            String[] rows = block.group(1).split("\n");
            (rows[0].startsWith("static ") ? helpers : lines).addAll(List.of(rows));
        }
        Check.due("answers in README.md", run(helpers, lines), 24);
        everyCallIsNamed(readme);
        Check.end("ReadmeTest");
    }

    private static int run(List<String> helpers, List<String> lines) throws Exception {
        int answers = 0;
        StringBuilder code = new StringBuilder("public final class ReadmeLines {\n");
        helpers.forEach(line -> code.append(line).append('\n'));
        code.append("public static java.util.List<Object> run() {\n");
        code.append("java.util.List<Object> got = new java.util.ArrayList<>();\n");
        List<String> due = new ArrayList<>();
        for (String line : lines) {
            code.append(line).append('\n');
            Matcher m = ANSWERED.matcher(line);
            if (m.matches()) {
                code.append("got.add(").append(m.group(1)).append(");\n");
                due.add(m.group(2));
                answers++;
            }
        }
        code.append("return got;\n}\n}\n");
        List<?> got = compiled(code.toString());
        for (int i = 0; i < due.size(); i++) {
            Check.due("README.md, answer " + (i + 1) + ": " + got.get(i) + " for " + due.get(i),
                    String.valueOf(got.get(i)).equals(due.get(i)), true);
        }
        return answers;
    }

    private static List<?> compiled(String code) throws Exception {
        JavaCompiler javac = ToolProvider.getSystemJavaCompiler();
        Path room = Files.createTempDirectory("readme");
        Path file = room.resolve("ReadmeLines.java");
        Files.writeString(file, code);
        int exit = javac.run(null, null, null, "-cp", System.getProperty("java.class.path"), "-d", room.toString(),
                file.toString());
        Check.due("README.md compiles", exit, 0);
        try (URLClassLoader loader = new URLClassLoader(new URL[] {room.toUri().toURL()})) {
            return exit == 0 ? (List<?>) loader.loadClass("ReadmeLines").getMethod("run").invoke(null) : List.of();
        } finally {
            Files.deleteIfExists(room.resolve("ReadmeLines.class"));
            Files.deleteIfExists(file);
            Files.deleteIfExists(room);
        }
    }

    private static void everyCallIsNamed(String readme) {
        for (java.lang.reflect.Method m : ToastMap.class.getDeclaredMethods()) {
            if (java.lang.reflect.Modifier.isPublic(m.getModifiers())) {
                Check.due("README.md names " + m.getName(), readme.contains("`" + m.getName() + "`"), true);
            }
        }
    }
}
