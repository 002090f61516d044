import java.lang.reflect.Constructor;
import java.lang.reflect.Field;
import java.lang.reflect.Method;
import java.lang.reflect.Modifier;
import java.nio.charset.StandardCharsets;
import java.nio.file.Files;
import java.nio.file.Path;
import java.util.ArrayList;
import java.util.List;
import java.util.Set;
import java.util.TreeSet;
import java.util.regex.Matcher;
import java.util.regex.Pattern;

/** The rules of LANGUAGE.md that a program can look at, and the document's face. */
public final class LanguageTest {
    public static void main(String[] args) throws Exception {
        List<Class<?>> classes = new ArrayList<>(List.of(ToastMap.class));
        classes.addAll(List.of(ToastMap.class.getDeclaredClasses()));
        face();
        names(classes);
        fields(classes);
        methods(classes);
        source();
        Check.end("LanguageTest");
    }

    private static void must(String what, boolean holds) {
        Check.due(what, holds, true);
    }

    private static String plain(Class<?> result, String name, Class<?>[] types) {
        StringBuilder text = new StringBuilder(result.getName()).append(' ').append(name).append('(');
        for (Class<?> type : types) {
            text.append(type.getName()).append(',');
        }
        return text.append(')').toString();
    }

    private static void face() throws Exception {
        String doc = Files.readString(Path.of("../shared/DOC.md"), StandardCharsets.UTF_8);
        String block = doc.substring(doc.indexOf("```java"), doc.indexOf("```", doc.indexOf("```java") + 7));
        Set<String> want = new TreeSet<>();
        Matcher m = Pattern.compile("public (\\w+) (\\w+)\\((.*)\\);").matcher(block);
        while (m.find()) {
            String types = m.group(3).replaceAll("(\\w+) \\w+(, )?", "$1,");
            want.add(m.group(1) + " " + m.group(2) + "(" + types + ")");
        }
        Set<String> got = new TreeSet<>();
        for (Method method : ToastMap.class.getDeclaredMethods()) {
            if (!Modifier.isPrivate(method.getModifiers())) {
                must(method + " is public", Modifier.isPublic(method.getModifiers()));
                got.add(plain(method.getReturnType(), method.getName(), method.getParameterTypes()));
            }
        }
        must("the face is the document's: " + got + " for " + want, got.equals(want));
        Check.due("methods", got.size(), 54);
        Constructor<?>[] made = ToastMap.class.getDeclaredConstructors();
        must("one constructor", made.length == 1 && made[0].getParameterCount() == 0
                && Modifier.isPublic(made[0].getModifiers()));
        for (Field field : ToastMap.class.getDeclaredFields()) {
            must(field + " is private or NONE",
                    Modifier.isPrivate(field.getModifiers()) || field.getName().equals("NONE"));
        }
        must("final", Modifier.isFinal(ToastMap.class.getModifiers()));
    }

    private static void names(List<Class<?>> classes) {
        Set<String> open = new TreeSet<>();
        for (Method method : ToastMap.class.getDeclaredMethods()) {
            if (Modifier.isPublic(method.getModifiers())) {
                open.add(method.getName());
            }
        }
        for (Class<?> c : classes) {
            for (Method method : c.getDeclaredMethods()) {
                must(method + " bears no public name",
                        !open.contains(method.getName()) || Modifier.isPublic(method.getModifiers()));
            }
            must(c + " is static", c == ToastMap.class || Modifier.isStatic(c.getModifiers()));
        }
        must("some twelve classes", classes.size() <= 12);
    }

    private static void fields(List<Class<?>> classes) {
        Set<Class<?>> allowed = Set.of(int.class, long.class, boolean.class, char.class, String.class, int[].class,
                long[].class, char[].class, byte[].class);
        for (Class<?> c : classes) {
            int own = 0;
            for (Field field : c.getDeclaredFields()) {
                if (Modifier.isStatic(field.getModifiers())) {
                    must(field + " is a constant",
                            Modifier.isFinal(field.getModifiers()) && allowed.contains(field.getType()));
                } else {
                    own++;
                }
            }
            must(c + " has some twenty fields", own <= 20);
        }
    }

    private static void methods(List<Class<?>> classes) {
        for (Class<?> c : classes) {
            for (Method method : c.getDeclaredMethods()) {
                must(method + " takes at most seven", method.getParameterCount() <= 7);
            }
        }
    }

    private static void source() throws Exception {
        String raw = Files.readString(Path.of("src/main/java/ToastMap.java"), StandardCharsets.ISO_8859_1);
        String text = raw.replaceAll("(?s)/\\*.*?\\*/", "").replaceAll("//[^\n]*", "")
                .replaceAll("\"[^\"\n]*\"", "\"\"");
        String[] words = {"throw", "throws", "try", "catch", "synchronized", "assert", "import", "package", "var",
            "Object", "Exception", "native", "volatile", "lambda", "System.out", "Exact", "hashCode", "toString"};
        for (String word : words) {
            must("no " + word, !Pattern.compile("(?<![A-Za-z])" + Pattern.quote(word) + "(?![a-z])").matcher(text).find());
        }
        must("no lambda", !text.contains("->"));
        must("no method reference", !text.contains("::"));
        must("no joining by +", !Pattern.compile("\"\"\\s*\\+|\\+\\s*\"\"").matcher(text).find());
        Matcher calls = Pattern.compile("(System|Arrays|Math|Integer|Long)\\.(\\w+)").matcher(text);
        Set<String> library = Set.of("System.arraycopy", "Math.max", "Math.min", "Math.abs", "Integer.bitCount");
        while (calls.find()) {
            must(calls.group() + " is of the library", library.contains(calls.group()));
        }
        must("signs 1 to 127", raw.chars().allMatch(c -> c > 0 && c < 128));
        lengths(raw.split("\n"));
    }

    /** A method begins at its head, which ends in an opening brace, and ends as deep as it began. */
    private static void lengths(String[] lines) {
        Pattern head = Pattern.compile("^( {4}| {8})(?! ).*\\) \\{$");
        for (int i = 0; i < lines.length; i++) {
            Matcher m = head.matcher(lines[i]);
            if (m.find() && !lines[i].contains(" class ")) {
                int j = i;
                while (j < lines.length - 1 && !lines[j].equals(m.group(1) + "}")) {
                    j++;
                }
                must("some sixty lines from line " + (i + 1), j - i <= 60);
            }
        }
    }
}
