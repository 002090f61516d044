import java.lang.reflect.Method;
import java.util.ArrayList;
import java.util.Comparator;
import java.util.List;
import java.util.Random;

/**
 * Puts the same random calls, right and wrong ones, to ToastMap and to Oracle, which
 * must answer alike; nothing may be thrown. The seeds are fixed, so each run is the same.
 */
public final class OracleTest {
    private static final String[] NAMES = {"a", "b", "cc", "dora", "eeeeeeee", "f", "warmer", "ends", "atx", "zz"};
    private static final String[] ODD_WORDS = {"at", "end", "lit", "abcdefghi", "person", "to", "12345", "00007",
        "?", ";", "<", "=", ">", "7", "60", "A", "\u00ff", "\t", "loop", "toast", "when", "stop", "q", ""};
    private static final int[] EXTREMES = {Integer.MAX_VALUE, Integer.MIN_VALUE, -1, 99, 100, 60, 61, 9999, 10000,
        255, 256, 1 << 16, -128, 31, 32, 33, 64};

    private final Random random;
    private final ToastMap x = new ToastMap();
    private final Oracle y = new Oracle();
    private final List<String> log = new ArrayList<>();
    // The NAMES of the MAP made latest, more or less: they are those of the MAP mostly.
    private int nameFrom = 0;
    private int nameCount = 1;
    private static final List<Method> METHODS = methods();

    private OracleTest(long seed) {
        random = new Random(seed);
    }

    private static List<Method> methods() {
        List<Method> list = new ArrayList<>();
        for (Method m : ToastMap.class.getDeclaredMethods()) {
            if (java.lang.reflect.Modifier.isPublic(m.getModifiers())) {
                list.add(m);
            }
        }
        list.sort(Comparator.comparing(Method::getName));
        return list;
    }

    public static void main(String[] args) throws Exception {
        int runs = args.length > 0 ? Integer.parseInt(args[0]) : 400;
        int from = args.length > 1 ? Integer.parseInt(args[1]) : 0;
        for (int seed = from; seed < from + runs; seed++) {
            OracleTest test = new OracleTest(seed);
            if (!test.run()) {
                System.out.println("seed " + seed + ": the last of these calls is answered otherwise");
                List<String> log = test.log;
                log.subList(Math.max(0, log.size() - 60), log.size()).forEach(System.out::println);
                System.exit(1);
            }
        }
        System.out.println("OracleTest: " + runs + " runs alike");
    }

    private boolean run() throws Exception {
        int calls = 0;
        if (random.nextInt(4) > 0 && !text("map", mapText(random.nextInt(6) == 0))) {
            return false;
        }
        if (random.nextInt(12) == 0) {
            for (int i = 0; i < 101; i++) {
                same("night", new Class<?>[] {int.class}, i == 100 ? 99 - random.nextInt(8) : 99);
            }
        }
        int most = 80 + random.nextInt(200);
        while (calls < most) {
            calls++;
            int kind = random.nextInt(40);
            boolean fine;
            if (kind == 0) {
                fine = text("map", mapText(random.nextInt(3) == 0));
            } else if (kind < 3) {
                fine = text("times", timesText(random.nextInt(3) == 0));
            } else if (kind < 5) {
                fine = fillTray();
            } else {
                fine = anyCall();
            }
            if (!fine || !sameState()) {
                return false;
            }
        }
        return true;
    }

    private boolean anyCall() throws Exception {
        Method m = METHODS.get(random.nextInt(METHODS.size()));
        // These take away what the other calls need, so they come more seldom.
        boolean clears = m.getName().equals("night") || m.getName().equals("map") || m.getName().equals("times");
        if (clears && random.nextInt(4) > 0) {
            return same("drink", new Class<?>[] {int.class}, small());
        }
        Class<?>[] types = m.getParameterTypes();
        Object[] args = new Object[types.length];
        for (int i = 0; i < types.length; i++) {
            if (types[i] == long.class) {
                args[i] = random.nextInt(4) == 0 ? random.nextLong() : (long) number();
            } else {
                args[i] = number();
            }
        }
        boolean bySeed = m.getName().equals("live") || m.getName().equals("mean");
        if (bySeed && random.nextInt(5) > 0) {
            args[0] = random.nextInt(10000);
            if (args.length > 1) {
                args[1] = 1 + random.nextInt(20);
            }
        }
        return same(m.getName(), types, args);
    }

    private int small() {
        return random.nextInt(9) - 1;
    }

    private int number() {
        int kind = random.nextInt(20);
        if (kind == 0) {
            return EXTREMES[random.nextInt(EXTREMES.length)];
        }
        if (kind == 1) {
            return random.nextInt();
        }
        if (kind < 5) {
            return random.nextInt(62) - 1;
        }
        return kind < 8 ? random.nextInt(15) - 1 : random.nextInt(7);
    }

    private boolean same(String name, Class<?>[] types, Object... args) throws Exception {
        Object got = ToastMap.class.getMethod(name, types).invoke(x, args);
        Object want = Oracle.class.getMethod(name, types).invoke(y, args);
        log.add(name + java.util.Arrays.toString(args) + " answered " + got + " (" + x.status() + "), due is " + want
                + " (" + y.status() + ")");
        return got.equals(want) && x.status() == y.status() && x.top() == y.top() && x.bottom() == y.bottom();
    }

    private boolean sameState() {
        boolean alike = x.fault(0) == y.fault(0) && x.fault(1) == y.fault(1);
        if (random.nextInt(8) == 0) {
            for (int what = 0; what < 12; what++) {
                alike &= x.told(what) == y.told(what);
            }
            int people = y.told(0);
            for (int p = 0; p < people; p++) {
                for (int what = 0; what < 7; what++) {
                    alike &= x.person(p, what) == y.person(p, what) && x.status() == y.status();
                }
            }
            for (int tray = 0; tray < 4; tray++) {
                for (int place = 0; place < 61; place++) {
                    alike &= x.read(tray, place) == y.read(tray, place) && x.status() == y.status();
                }
            }
        }
        if (!alike) {
            log.add("the state is otherwise: faults " + x.fault(0) + "," + x.fault(1) + " due " + y.fault(0) + ","
                    + y.fault(1));
        }
        return alike;
    }

    private boolean text(String call, String text) throws Exception {
        if (!same("map", new Class<?>[] {int.class}, random.nextInt(20) == 0 ? -1 : 901)) {
            return false;
        }
        byte[] bytes = Check.bytes(text);
        int before = y.feed(0x20202020, 0x20202020, 0x20202020, 0x20202020, 0x20202020);
        if (x.feed(0x20202020, 0x20202020, 0x20202020, 0x20202020, 0x20202020) != before) {
            log.add("feed is otherwise");
            return false;
        }
        for (int from = 0; from < bytes.length; from += 20) {
            int[] five = Check.ints(bytes, from);
            int got = x.feed(five[0], five[1], five[2], five[3], five[4]);
            if (got != y.feed(five[0], five[1], five[2], five[3], five[4])) {
                log.add("feed is otherwise");
                return false;
            }
        }
        log.add("text: " + text);
        int n = Math.max(before, 0) + text.length();
        return same(call, new Class<?>[] {int.class}, n);
    }

    private boolean fillTray() throws Exception {
        int tray = random.nextInt(4);
        int people = Math.max(0, y.told(0));
        x.told(0);
        int rows = random.nextInt(5);
        boolean law = random.nextBoolean();
        int many = rows * (law ? 3 : 2);
        Class<?>[] three = {int.class, int.class, int.class};
        boolean fine = same("tray", three, tray, random.nextInt(4), many);
        int[] perm = permutation(people);
        int heat = 1 + random.nextInt(20);
        int reach = 1 + random.nextInt(9);
        for (int i = 0; i < rows; i++) {
            long[] row;
            if (law) {
                int meant = random.nextInt(10);
                int far = random.nextInt(60);
                row = new long[] {meant, far, Math.max(0, heat * meant - far / reach) + random.nextInt(12) / 11};
            } else {
                int drank = random.nextInt(1 << people);
                int warmed = random.nextInt(8) == 0 ? random.nextInt(2 << people) : image(perm, drank);
                row = new long[] {drank, warmed};
            }
            for (int j = 0; j < row.length; j++) {
                fine &= same("write", new Class<?>[] {int.class, int.class, long.class}, tray, i * row.length + j, row[j]);
            }
        }
        Class<?>[] two = {int.class, int.class};
        if (law) {
            return fine && same("laws", two, tray, rows) && same("lawOf", three, tray, rows, 0)
                    && same("lawOf", three, tray, rows, 1);
        }
        fine = fine && same("fits", two, tray, rows) && same("ask", two, tray, rows);
        for (int p = 0; p < people; p++) {
            fine = fine && same("firstOf", three, tray, rows, p)
                    && same("oddsThat", new Class<?>[] {int.class, int.class, int.class, int.class}, tray, rows, p,
                            random.nextInt(people));
        }
        return fine;
    }

    private int[] permutation(int n) {
        int[] perm = new int[n];
        for (int i = 0; i < n; i++) {
            perm[i] = i;
        }
        for (int i = n - 1; i > 0; i--) {
            int j = random.nextInt(i);
            int other = perm[i];
            perm[i] = perm[j];
            perm[j] = other;
        }
        return perm;
    }

    private static int image(int[] perm, int set) {
        int image = 0;
        for (int i = 0; i < perm.length; i++) {
            image |= (set >> i & 1) << perm[i];
        }
        return image;
    }

    private String mapText(boolean wrong) {
        List<String> parts = new ArrayList<>();
        String[] rules = {"odds", "sham", "glow", "cool", "heat", "reach"};
        int[] most = {16, 16, 99, 30, 20, 9};
        int people = random.nextInt(wrong ? 9 : 8);
        int offset = random.nextInt(3);
        nameFrom = offset;
        nameCount = Math.max(1, people);
        for (int i = 0; i < people; i++) {
            String part = "person " + NAMES[Math.min(9, offset + i)] + " at " + random.nextInt(60);
            part += random.nextBoolean() ? " meant " + random.nextInt(10) : "";
            part += random.nextBoolean() ? " warm " + random.nextInt(100) : "";
            part += random.nextBoolean() ? " glasses " + random.nextInt(10) : "";
            parts.add(part + ";");
        }
        for (int i = 0; i < 6; i++) {
            if (random.nextInt(3) == 0) {
                int top = i == 2 && random.nextBoolean() ? 40 : most[i];
                parts.add(random.nextInt(parts.size() + 1), rules[i] + " " + (1 + random.nextInt(top)) + ";");
            }
        }
        for (int i = 0; i < people && people > 1; i++) {
            int other = random.nextInt(people);
            if (random.nextInt(5) > 0 && (wrong || other != i)) {
                parts.add("toast " + NAMES[Math.min(9, offset + i)] + " to " + NAMES[Math.min(9, offset + other)] + ";");
            }
        }
        return spoil(String.join(random.nextBoolean() ? "\n" : " ", parts), wrong);
    }

    private String timesText(boolean wrong) {
        StringBuilder text = new StringBuilder();
        steps(text, 0, 1 + random.nextInt(6));
        return spoil(text.toString(), wrong);
    }

    private void steps(StringBuilder text, int depth, int many) {
        for (int i = 0; i < many && text.length() < 240; i++) {
            boolean stranger = random.nextInt(40) == 0;
            String name = NAMES[stranger ? 9 : Math.min(9, nameFrom + random.nextInt(nameCount))];
            char sign = "<>=".charAt(random.nextInt(3));
            switch (random.nextInt(depth < 3 ? 11 : 7)) {
                case 0, 1 -> text.append("drink ").append(name).append(";");
                case 2 -> text.append("night ").append(1 + random.nextInt(20)).append(";");
                case 3 -> text.append("evening;");
                case 4 -> text.append("fill ").append(name).append(" ").append(random.nextInt(10)).append(";");
                case 5 -> text.append("any;");
                case 6 -> text.append(random.nextInt(4) == 0 ? "stop;" : "any ;");
                case 7 -> open(text, "when lit " + name, depth);
                case 8 -> open(text, "when warm " + name + sign + random.nextInt(100), depth);
                case 9 -> open(text, "when glasses " + name + " " + sign + " " + random.nextInt(10), depth);
                default -> open(text, "loop " + (1 + random.nextInt(random.nextInt(3) == 0 ? 99 : 6)), depth);
            }
        }
    }

    private void open(StringBuilder text, String head, int depth) {
        text.append(head).append(";");
        steps(text, depth + 1, random.nextInt(4));
        text.append("end;");
    }

    private String spoil(String text, boolean wrong) {
        if (!wrong || text.isEmpty()) {
            return text;
        }
        int at = random.nextInt(text.length());
        switch (random.nextInt(4)) {
            case 0:
                return text.substring(0, at);
            case 1:
                return text.substring(0, at) + text.substring(at + 1);
            case 2:
                return text.substring(0, at) + ODD_WORDS[random.nextInt(ODD_WORDS.length)] + text.substring(at);
            default:
                int space = text.indexOf(' ', at);
                return space < 0 ? text + "x" : text.substring(0, space) + " "
                        + ODD_WORDS[random.nextInt(ODD_WORDS.length)] + " " + text.substring(space);
        }
    }
}
