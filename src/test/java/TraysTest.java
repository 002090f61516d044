/** Promises 1 to 8: a new object, STATUS, FRACTIONS, TRAYS. */
public final class TraysTest {
    private static final int LARGE = Integer.MAX_VALUE;
    private static final int SMALL = Integer.MIN_VALUE;

    public static void main(String[] args) {
        newObject();
        status();
        fractions();
        tray();
        write();
        read();
        pour();
        Check.end("TraysTest");
    }

    private static void newObject() {
        ToastMap x = new ToastMap();
        Check.due("new status", x.status(), 0);
        Check.due("new top", x.top(), 0);
        Check.due("new bottom", x.bottom(), 1);
        Check.due("new fault 0", x.fault(0), -1);
        Check.due("new fault 1", x.fault(1), -1);
        int[] want = {0, 12, 4, 20, 5, 10, 1, 0, 0, 0, 0, 0};
        for (int what = 0; what < want.length; what++) {
            Check.due("new told " + what, x, x.told(what), want[what], 0);
        }
        for (int tray = 0; tray < 4; tray++) {
            Check.due("new tray " + tray, x, x.read(tray, 0), -1, 2);
        }
        Check.due("new live", x, x.live(0), -1, 6);
        Check.due("new undo", x, x.undo(), -1, 6);
        Check.due("new tape", x, x.map(1), -1, 1);
        Check.due("new tape, nothing of it", x, x.map(0), 0, 0);
        Check.due("NONE", ToastMap.NONE, -1);
    }

    private static void status() {
        ToastMap x = new ToastMap();
        x.read(4, 0);
        Check.due("status of a wrong call", x.status(), 1);
        Check.due("status stays", x.status(), 1);
        x.top();
        x.bottom();
        x.fault(0);
        x.feed(0, 0, 0, 0, 0);
        Check.due("calls without status", x.status(), 1);
        x.told(0);
        Check.due("status of a right call", x.status(), 0);
    }

    private static void fractions() {
        ToastMap x = Check.of("person a at 0 warm 6; person b at 0 warm 2; person c at 0;");
        Check.fraction("share", x, x.share(0), 3, 4);
        Check.due("a wrong share", x, x.share(3), false, 1);
        Check.due("top stays", x.top(), 3);
        Check.due("bottom stays", x.bottom(), 4);
        Check.fraction("share of nothing", x, x.share(2), 0, 1);
    }

    private static void tray() {
        ToastMap x = new ToastMap();
        Check.due("tray", x, x.tray(0, 0, 60), true, 0);
        Check.due("empty tray", x, x.tray(3, 3, 0), true, 0);
        Check.due("tray -1", x, x.tray(-1, 0, 1), false, 1);
        Check.due("tray 4", x, x.tray(4, 0, 1), false, 1);
        Check.due("sort -1", x, x.tray(0, -1, 1), false, 1);
        Check.due("sort 4", x, x.tray(0, 4, 1), false, 1);
        Check.due("many -1", x, x.tray(0, 0, -1), false, 1);
        Check.due("many 61", x, x.tray(0, 0, 61), false, 1);
        Check.due("many large", x, x.tray(0, 0, LARGE), false, 1);
        x.write(0, 59, 5);
        Check.due("the old one stays", x, x.read(0, 59), 5, 0);
        x.write(0, 0, 6);
        x.tray(0, 1, 60);
        Check.due("a row of 0s", x, x.read(0, 59), 0, 0);
        Check.due("a row of 0s, the first", x, x.read(0, 0), 0, 0);
    }

    private static void write() {
        ToastMap x = new ToastMap();
        long v = 0x123456789abcdef0L;
        long[] want = {(byte) v, (short) v, (int) v, v};
        for (int sort = 0; sort < 4; sort++) {
            x.tray(sort, sort, 2);
            Check.due("write", x, x.write(sort, 1, v), true, 0);
            Check.due("cut to sort " + sort, x, x.read(sort, 1), want[sort], 0);
            Check.due("the other place", x, x.read(sort, 0), 0, 0);
        }
        x.write(0, 0, 128);
        Check.due("128 as 8 bits", x.read(0, 0), -128);
        x.write(1, 0, 65535);
        Check.due("65535 as 16 bits", x.read(1, 0), -1);
        x.write(2, 0, 1L << 31);
        Check.due("2^31 as 32 bits", x.read(2, 0), SMALL);
        Check.due("place 2", x, x.write(0, 2, 7), false, 3);
        Check.due("place -1", x, x.write(0, -1, 7), false, 3);
        Check.due("place large", x, x.write(0, LARGE, 7), false, 3);
        Check.due("tray 4", x, x.write(4, 0, 7), false, 1);
        Check.due("tray -1", x, x.write(-1, -1, 7), false, 1);
        Check.due("a missing one", new ToastMap().write(2, 0, 7), false);
    }

    private static void read() {
        ToastMap x = new ToastMap();
        x.tray(1, 3, 1);
        x.write(1, 0, -1);
        Check.due("a -1 in it", x, x.read(1, 0), -1, 0);
        Check.due("no place", x, x.read(1, 1), -1, 3);
        Check.due("place below 0", x, x.read(1, -1), -1, 3);
        Check.due("missing", x, x.read(0, -1), -1, 2);
        Check.due("no tray", x, x.read(SMALL, 0), -1, 1);
        x.tray(1, 3, 0);
        Check.due("an empty one", x, x.read(1, 0), -1, 3);
    }

    private static void pour() {
        ToastMap x = new ToastMap();
        x.tray(0, 1, 5);
        x.tray(1, 1, 3);
        x.tray(2, 2, 5);
        for (int i = 0; i < 5; i++) {
            x.write(0, i, 10 + i);
        }
        Check.due("pour", x, x.pour(0, 3, 1, 1, 2), true, 0);
        row(x, 1, 0, 13, 14);
        Check.due("pour up", x, x.pour(0, 0, 0, 1, 4), true, 0);
        row(x, 0, 10, 10, 11, 12, 13);
        Check.due("pour down", x, x.pour(0, 1, 0, 0, 4), true, 0);
        row(x, 0, 10, 11, 12, 13, 13);
        Check.due("pour nothing at the end", x, x.pour(0, 5, 1, 3, 0), true, 0);
        Check.due("pour nothing beyond", x, x.pour(0, 6, 1, 3, 0), false, 3);
        Check.due("too many from", x, x.pour(0, 4, 1, 0, 2), false, 3);
        Check.due("too many to", x, x.pour(0, 0, 1, 2, 2), false, 3);
        Check.due("large", x, x.pour(0, LARGE, 1, LARGE, LARGE), false, 3);
        Check.due("below 0", x, x.pour(0, -1, 1, 0, 1), false, 1);
        Check.due("at below 0", x, x.pour(0, 0, 1, -1, 1), false, 1);
        Check.due("many below 0", x, x.pour(0, 0, 1, 0, -1), false, 1);
        Check.due("no from", x, x.pour(-1, 0, 1, 0, 1), false, 1);
        Check.due("no to", x, x.pour(0, 0, 4, 0, 1), false, 1);
        Check.due("below 0 ahead of missing", x, x.pour(3, -1, 0, 0, 1), false, 1);
        Check.due("missing from", x, x.pour(3, 99, 2, 0, 1), false, 2);
        Check.due("missing to", x, x.pour(0, 0, 3, 0, 1), false, 2);
        Check.due("unlike ahead of places", x, x.pour(0, 99, 2, 99, 1), false, 8);
        row(x, 0, 10, 11, 12, 13, 13);
        row(x, 1, 0, 13, 14);
    }

    private static void row(ToastMap x, int tray, long... want) {
        for (int i = 0; i < want.length; i++) {
            Check.due("tray " + tray + " place " + i, x.read(tray, i), want[i]);
        }
    }
}
