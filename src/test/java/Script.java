import java.lang.reflect.Method;
import java.util.ArrayList;
import java.util.List;
import java.util.Set;
import java.util.regex.Matcher;
import java.util.regex.Pattern;

/**
 * A run of calls on a new object, told by lines (README.md has their form). In the end
 * a second object is given only those calls that may change something: whatever else
 * was called must have left no trace, so that both answer alike from then on.
 */
final class Script {
    private static final Set<String> WITHOUT_STATUS = Set.of("status", "top", "bottom", "feed", "fault");
    private static final Set<String> CHANGING = Set.of("tray", "write", "pour", "feed", "map", "times", "drink", "night",
            "evening", "fill", "means", "move", "aim", "come", "rule", "copyWarmth", "live", "mark", "undo");
    private static final Set<String> OF_FRACTIONS = Set.of("oddsThat", "error", "share", "mean");
    private static final Pattern CALL = Pattern.compile("(\\w+)\\(([^)]*)\\)(?:\\s*([=:])\\s*(\\S+))?");
    private static final Pattern LOOP = Pattern.compile("loop (\\d+) (\\w+)\\(([^)]*)\\)");
    private static final Pattern TEXT = Pattern.compile("(map|times|feed) \"([^\"]*)\"(?:\\s*([=!])\\s*(\\S+))?");
    private static final Pattern ROW = Pattern.compile("(row|reads)\\(([^)]*)\\)((?:\\s+-?\\w+)*)");
    private static final int MOST_CALLS = 512;

    private record Done(String name, long[] args) {
    }

    private final List<String> wrongs = new ArrayList<>();
    private final List<Done> changes = new ArrayList<>();
    private final ToastMap x = new ToastMap();
    private int calls = 0;
    private boolean hasFraction = false;
    private boolean hasFault = false;

    List<String> wrongs() {
        return wrongs;
    }

    void run(String line) {
        try {
            Matcher m = LOOP.matcher(line);
            if (m.matches()) {
                for (int i = 0; i < Integer.parseInt(m.group(1)); i++) {
                    change(m.group(2), numbers(m.group(3)));
                }
                return;
            }
            m = TEXT.matcher(line);
            if (m.matches()) {
                text(line, m);
                return;
            }
            m = ROW.matcher(line);
            if (m.matches()) {
                row(line, m);
                return;
            }
            m = CALL.matcher(line);
            if (m.matches()) {
                call(line, m.group(1), numbers(m.group(2)), m.group(3), m.group(4));
                return;
            }
            wrongs.add("no such line: " + line);
        } catch (ReflectiveOperationException e) {
            wrongs.add(line + " threw " + e.getCause());
        }
    }

    private void call(String line, String name, long[] args, String kind, String due) throws ReflectiveOperationException {
        int before = x.status();
        Object got = ask(x, name, args);
        int status = x.status();
        calls += 3;
        if (WITHOUT_STATUS.contains(name)) {
            must(line, status == before, "STATUS from " + before + " to " + status);
            must(line, due == null || number(got) == number(due), "answered " + got);
        } else if (":".equals(kind)) {
            must(line, status == number(due), "STATUS " + status);
            must(line, got.equals(Boolean.FALSE) || number(got) == ToastMap.NONE, "answered " + got);
            if (status == 9) {
                changes.add(new Done(name, args));
            }
            return;
        } else {
            must(line, status == 0, "STATUS " + status);
            must(line, due == null || isDue(got, due), "answered " + got + " " + x.top() + "/" + x.bottom());
            calls += 4;
        }
        hasFraction |= OF_FRACTIONS.contains(name);
        if (CHANGING.contains(name)) {
            changes.add(new Done(name, args));
        }
    }

    private boolean isDue(Object got, String due) {
        int by = due.indexOf('/');
        if (by < 0) {
            return number(got) == number(due);
        }
        return got.equals(Boolean.TRUE) && x.top() == number(due.substring(0, by))
                && x.bottom() == number(due.substring(by + 1));
    }

    private void change(String name, long[] args) throws ReflectiveOperationException {
        ask(x, name, args);
        calls++;
        changes.add(new Done(name, args));
    }

    /** A text is fed to an empty tape; with a FAULT that is due, ^ stands at its place. */
    private void text(String line, Matcher m) throws ReflectiveOperationException {
        String text = plain(m.group(2));
        boolean faulty = "!".equals(m.group(3));
        int place = text.indexOf('^');
        if (faulty && place < 0) {
            wrongs.add(line + " has no ^");
            return;
        }
        text = faulty ? text.replace("^", "") : text;
        text = unescaped(text);
        byte[] bytes = Check.bytes(text);
        for (int from = 0; from < bytes.length; from += 20) {
            int[] five = Check.ints(bytes, from);
            long[] args = {five[0], five[1], five[2], five[3], five[4]};
            if (faulty) {
                ask(x, "feed", args);
                calls++;
            } else {
                change("feed", args);
            }
        }
        if (faulty) {
            long[] n = {text.length()};
            must(line, number(ask(x, m.group(1), n)) == ToastMap.NONE, "was taken");
            must(line, x.status() == 9, "STATUS " + x.status());
            must(line, x.fault(0) == number(m.group(4)) && x.fault(1) == unescaped(plain(m.group(2)).substring(0, place)).length(),
                    "FAULT " + x.fault(0) + " at " + x.fault(1));
            calls += 6;
            hasFault = true;
        } else if (!m.group(1).equals("feed")) {
            call(line, m.group(1), new long[] {text.length()}, "=", m.group(4));
            must(line, x.fault(0) == 0 && x.fault(1) == ToastMap.NONE, "FAULT " + x.fault(0) + " at " + x.fault(1));
            calls += 4;
        }
    }

    /** {N*text} stands for N times the text. */
    private static String plain(String text) {
        Matcher m = Pattern.compile("\\{(\\d+)\\*([^}]*)\\}").matcher(text);
        StringBuilder out = new StringBuilder();
        int from = 0;
        while (m.find()) {
            out.append(text, from, m.start()).append(m.group(2).repeat(Integer.parseInt(m.group(1))));
            from = m.end();
        }
        return out.append(text.substring(from)).toString();
    }

    /** \n is a byte 10, \xE9 one of that number. */
    private static String unescaped(String text) {
        StringBuilder out = new StringBuilder();
        for (int i = 0; i < text.length(); i++) {
            if (text.charAt(i) != '\\') {
                out.append(text.charAt(i));
            } else if (text.charAt(i + 1) == 'n') {
                out.append('\n');
                i++;
            } else {
                out.append((char) Integer.parseInt(text.substring(i + 2, i + 4), 16));
                i += 3;
            }
        }
        return out.toString();
    }

    private void row(String line, Matcher m) throws ReflectiveOperationException {
        long[] head = numbers(m.group(2));
        String[] words = m.group(3).isBlank() ? new String[0] : m.group(3).trim().split("\\s+");
        boolean laid = m.group(1).equals("row");
        if (laid) {
            call(line, "tray", new long[] {head[0], head[1], words.length}, "=", "true");
        }
        for (int i = 0; i < words.length; i++) {
            if (laid) {
                change("write", new long[] {head[0], i, number(words[i])});
            } else {
                call(line + " place " + i, "read", new long[] {head[0], i}, "=", words[i]);
            }
        }
    }

    /** To be called behind the last line. */
    void end() {
        try {
            ToastMap y = new ToastMap();
            for (Done done : changes) {
                ask(y, done.name, done.args);
            }
            List<String> ours = probe(x);
            List<String> theirs = probe(y);
            for (int i = 0; i < Math.min(ours.size(), theirs.size()); i++) {
                if (!ours.get(i).equals(theirs.get(i))) {
                    wrongs.add("what changes nothing did: " + ours.get(i) + ", without it " + theirs.get(i));
                    return;
                }
            }
            must("calls", calls + ours.size() <= MOST_CALLS, calls + " and " + ours.size() + " are too many");
        } catch (ReflectiveOperationException e) {
            wrongs.add("in the end " + e.getCause());
        }
    }

    private List<String> probe(ToastMap z) throws ReflectiveOperationException {
        List<String> told = new ArrayList<>();
        if (!hasFraction) {
            probe(told, z, "top");
            probe(told, z, "bottom");
        }
        if (!hasFault) {
            probe(told, z, "fault", 0);
            probe(told, z, "fault", 1);
        }
        for (int what = 0; what < 5; what++) {
            probe(told, z, "lived", what);
        }
        people(told, z);
        for (int tray = 0; tray < 4; tray++) {
            for (int place = 0; place <= 60 && probe(told, z, "read", tray, place); place++) {
                continue;
            }
        }
        long many = number(ask(z, "feed", new long[5]));
        told.add("feed " + many);
        probe(told, z, "map", many < 0 ? 900 : many);
        if (!hasFault) {
            probe(told, z, "fault", 1);
        }
        for (int i = 0; i < 4; i++) {
            if (probe(told, z, "undo")) {
                probe(told, z, "live", 4321);
                people(told, z);
            }
        }
        return told;
    }

    private void people(List<String> told, ToastMap z) throws ReflectiveOperationException {
        for (int what = 0; what < 12; what++) {
            probe(told, z, "told", what);
        }
        for (int person = 0; probe(told, z, "person", person, 0); person++) {
            for (int what = 1; what < 5; what++) {
                probe(told, z, "person", person, what);
            }
        }
        probe(told, z, "live", 1234);
        probe(told, z, "told", 10);
        probe(told, z, "told", 11);
    }

    private boolean probe(List<String> told, ToastMap z, String name, long... args) throws ReflectiveOperationException {
        Object got = ask(z, name, args);
        boolean none = number(got) == ToastMap.NONE;
        boolean has = !WITHOUT_STATUS.contains(name);
        told.add(name + java.util.Arrays.toString(args) + " " + got + (none && has ? " STATUS " + z.status() : ""));
        return !none;
    }

    private void must(String line, boolean holds, String otherwise) {
        if (!holds) {
            wrongs.add(line + ": " + otherwise);
        }
    }

    private static Object ask(ToastMap z, String name, long[] args) throws ReflectiveOperationException {
        for (Method m : ToastMap.class.getMethods()) {
            Class<?>[] types = m.getParameterTypes();
            if (m.getName().equals(name) && m.getDeclaringClass() == ToastMap.class && types.length == args.length) {
                Object[] given = new Object[args.length];
                for (int i = 0; i < args.length; i++) {
                    if (types[i] == long.class) {
                        given[i] = args[i];
                    } else {
                        given[i] = (int) args[i];
                    }
                }
                return m.invoke(z, given);
            }
        }
        throw new NoSuchMethodException(name);
    }

    private static long[] numbers(String list) {
        if (list.isBlank()) {
            return new long[0];
        }
        String[] words = list.split(",");
        long[] numbers = new long[words.length];
        for (int i = 0; i < words.length; i++) {
            numbers[i] = number(words[i].trim());
        }
        return numbers;
    }

    private static long number(Object got) {
        return got instanceof Boolean b ? b ? 1 : 0 : ((Number) got).longValue();
    }

    private static long number(String word) {
        return switch (word) {
            case "NONE" -> ToastMap.NONE;
            case "true" -> 1;
            case "false" -> 0;
            case "MAX" -> Integer.MAX_VALUE;
            case "MIN" -> Integer.MIN_VALUE;
            case "LMAX" -> Long.MAX_VALUE;
            case "LMIN" -> Long.MIN_VALUE;
            default -> Long.decode(word);
        };
    }
}
