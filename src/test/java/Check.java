/** What the tests share: answers that are due, and texts fed to the tape. */
final class Check {
    private static int asked = 0;
    private static int wrong = 0;

    private Check() {
    }

    static void due(String what, long got, long want) {
        asked++;
        if (got != want) {
            wrong++;
            System.out.println(what + " answered " + got + ", due is " + want);
        }
    }

    static void due(String what, boolean got, boolean want) {
        due(what, got ? 1 : 0, want ? 1 : 0);
    }

    /** The answer, then the STATUS that is due behind it. */
    static void due(String what, ToastMap x, long got, long want, int status) {
        due(what, got, want);
        due(what + " status", x.status(), status);
    }

    static void due(String what, ToastMap x, boolean got, boolean want, int status) {
        due(what, got, want);
        due(what + " status", x.status(), status);
    }

    static void fraction(String what, ToastMap x, boolean got, long top, long bottom) {
        due(what, x, got, true, 0);
        due(what + " top", x.top(), top);
        due(what + " bottom", x.bottom(), bottom);
    }

    static int[] ints(byte[] bytes, int from) {
        int[] five = new int[5];
        for (int i = 0; i < 20; i++) {
            int b = from + i < bytes.length ? bytes[from + i] & 255 : 0;
            five[i / 4] = five[i / 4] << 8 | b;
        }
        return five;
    }

    static byte[] bytes(String text) {
        return text.getBytes(java.nio.charset.StandardCharsets.ISO_8859_1);
    }

    static void feed(ToastMap x, String text) {
        byte[] bytes = bytes(text);
        for (int from = 0; from < bytes.length; from += 20) {
            int[] five = ints(bytes, from);
            x.feed(five[0], five[1], five[2], five[3], five[4]);
        }
    }

    static int map(ToastMap x, String text) {
        feed(x, text);
        return x.map(text.length());
    }

    static int times(ToastMap x, String text) {
        feed(x, text);
        return x.times(text.length());
    }

    static ToastMap of(String text) {
        ToastMap x = new ToastMap();
        if (map(x, text) < 0) {
            due("map of " + text + " fault " + x.fault(0) + " at " + x.fault(1), 9, 0);
        }
        return x;
    }

    static void mapFault(String text, int kind, int place) {
        ToastMap x = of("person q at 3;");
        due("map " + text, x, map(x, text), -1, 9);
        due("fault of " + text, x.fault(0), kind);
        due("place of " + text, x.fault(1), place);
        due("old map behind " + text, x.told(0), 1);
    }

    static void timesFault(ToastMap x, String text, int kind, int place) {
        due("times " + text, x, times(x, text), -1, 9);
        due("fault of " + text, x.fault(0), kind);
        due("place of " + text, x.fault(1), place);
    }

    static void end(String name) {
        System.out.println(name + ": " + asked + " answers, " + wrong + " not as due");
        if (wrong != 0) {
            System.exit(1);
        }
    }
}
