/** Promises 16 to 24: what is done. */
public final class DoneTest {
    private static final int LARGE = Integer.MAX_VALUE;
    private static final String THREE =
            "person a at 0 meant 2 warm 30 glasses 2; person b at 10 warm 80; person c at 30 meant 9 glasses 0;"
            + "toast a to b; toast b to a;";

    public static void main(String[] args) {
        drink();
        night();
        evening();
        fill();
        means();
        move();
        aim();
        come();
        rule();
        Check.end("DoneTest");
    }

    private static void drink() {
        ToastMap x = Check.of(THREE);
        Check.due("drink", x, x.drink(0), 90, 0);
        Check.due("a glass less", x.person(0, 3), 1);
        Check.due("99 at most", x, x.drink(0), 99, 0);
        Check.due("no glass", x, x.drink(0), -1, 7);
        Check.due("the warmth stays", x.person(1, 2), 99);
        Check.due("no whom", x, x.drink(2), -1, 7);
        x.fill(2, 5);
        Check.due("no whom, with glasses", x, x.drink(2), -1, 7);
        Check.due("no night goes by", x.told(7), 0);
        Check.due("warm 0", x, x.drink(1), 30, 0);
        Check.due("a glass for nothing", x.person(1, 3), 1);
        Check.due("person 3", x, x.drink(3), -1, 1);
        Check.due("person -1", x, x.drink(-1), -1, 1);
        Check.due("person large", x, x.drink(LARGE), -1, 1);
    }

    private static void night() {
        ToastMap x = Check.of(THREE);
        Check.due("two nights", x, x.night(2), 3, 0);
        Check.due("cooled", x.person(0, 2), 20);
        Check.due("another", x, x.night(1), 2, 0);
        Check.due("the night", x.told(7), 3);
        Check.due("99 nights", x, x.night(99), 0, 0);
        Check.due("0 at least", x.told(10), 0);
        Check.due("0 nights", x, x.night(0), -1, 1);
        Check.due("100 nights", x, x.night(100), -1, 1);
        Check.due("-1 nights", x, x.night(-1), -1, 1);
        for (int i = 0; i < 99; i++) {
            x.night(99);
        }
        Check.due("far on", x.told(7), 102 + 99 * 99);
        Check.due("above 9,999", x, x.night(97), -1, 4);
        Check.due("not at all", x.told(7), 9903);
        Check.due("to 9,999", x, x.night(96), 0, 0);
        Check.due("the last", x.told(7), 9999);
        Check.due("one more", x, x.night(1), -1, 4);
        Check.due("1 ahead of 4", x, x.night(100), -1, 1);
        Check.due("no evening", x, x.evening(), -1, 4);
    }

    private static void evening() {
        ToastMap x = Check.of(THREE + "toast c to b;");
        Check.due("evening", x, x.evening(), 3, 0);
        Check.due("a", x.person(0, 2), 25);
        Check.due("b", x.person(1, 2), 85);
        Check.due("c", x.person(2, 2), 0);
        Check.due("no glass goes", x.told(11), 4);
        Check.due("the night", x.told(7), 1);
        ToastMap y = Check.of("person a at 0 meant 9 warm 20; person b at 0 meant 9 warm 20; person c at 0 warm 99 glasses 0;"
                + "toast a to c; toast b to c; toast c to a; cool 30;");
        Check.due("all at once", y, y.evening(), 7, 0);
        Check.due("99 at most, then cooled", y.person(2, 2), 69);
        Check.due("20 and 10 less 30", y.person(0, 2), 0);
        Check.due("20 less 30", y.person(1, 2), 0);
        ToastMap z = Check.of("person a at 0 warm 20; person b at 0 warm 19; toast b to a;");
        Check.due("lit without whom, whom without light", z, z.evening(), 0, 0);
        ToastMap v = new ToastMap();
        for (int i = 0; i < 100; i++) {
            v.night(99);
        }
        v.night(98);
        Check.due("to 9,999", v, v.evening(), 0, 0);
        Check.due("the last", v.told(7), 9999);
        Check.due("none behind it", v, v.evening(), -1, 4);
        ToastMap w = Check.of("person a at 0 meant 0 warm 20; person b at 0 warm 10; toast a to b;");
        Check.due("who warms by 0 warms", w, w.evening(), 1, 0);
    }

    private static void fill() {
        ToastMap x = Check.of(THREE);
        Check.due("fill", x, x.fill(1, 9), 2, 0);
        Check.due("filled", x, x.fill(1, 9), 9, 0);
        Check.due("emptied", x, x.fill(1, 0), 9, 0);
        Check.due("now 0", x.person(1, 3), 0);
        Check.due("10", x, x.fill(1, 10), -1, 1);
        Check.due("-1", x, x.fill(1, -1), -1, 1);
        Check.due("person 3", x, x.fill(3, 1), -1, 1);
        Check.due("still 0", x.person(1, 3), 0);
    }

    private static void means() {
        ToastMap x = Check.of(THREE);
        Check.due("means", x, x.means(0, 9), 2, 0);
        Check.due("warm by it", x.person(0, 5), 80);
        Check.due("means nothing", x, x.means(0, 0), 9, 0);
        Check.due("10", x, x.means(0, 10), -1, 1);
        Check.due("-1", x, x.means(0, -1), -1, 1);
        Check.due("person -1", x, x.means(-1, 1), -1, 1);
        Check.due("still 0", x.person(0, 1), 0);
    }

    private static void move() {
        ToastMap x = Check.of(THREE);
        Check.due("move", x, x.move(1, 59), 10, 0);
        Check.due("far then", x.far(0, 1), 59);
        Check.due("back", x, x.move(1, 0), 59, 0);
        Check.due("60", x, x.move(1, 60), -1, 1);
        Check.due("-1", x, x.move(1, -1), -1, 1);
        Check.due("person 3", x, x.move(3, 1), -1, 1);
        Check.due("still 0", x.person(1, 0), 0);
    }

    private static void aim() {
        ToastMap x = Check.of(THREE);
        Check.due("it is so", x, x.aim(0, 1), -1, 7);
        Check.due("another", x, x.aim(0, 2), 1, 0);
        Check.due("now him", x.person(0, 4), 2);
        Check.due("it was nobody", x, x.aim(2, 0), 3, 0);
        Check.due("now 0", x.person(2, 4), 0);
        Check.due("himself", x, x.aim(2, 2), -1, 1);
        Check.due("no other", x, x.aim(2, 3), -1, 1);
        Check.due("nobody", x, x.aim(2, -1), -1, 1);
        Check.due("no person", x, x.aim(-1, 0), -1, 1);
        Check.due("still 0", x.person(2, 4), 0);
    }

    private static void come() {
        ToastMap x = Check.of("person a at 5 meant 7 warm 80 glasses 9; person b at 1 warm 9; toast a to b; toast b to a;");
        x.mark();
        x.come(3);
        x.aim(2, 0);
        x.undo();
        Check.due("one more", x, x.come(59), 2, 0);
        int[] want = {59, 1, 0, 2};
        for (int what = 0; what < 4; what++) {
            Check.due("of him " + what, x.person(2, what), want[what]);
        }
        Check.due("whom nobody", x, x.person(2, 4), -1, 6);
        Check.due("60", x, x.come(60), -1, 1);
        Check.due("-1", x, x.come(-1), -1, 1);
        for (int i = 3; i < 7; i++) {
            Check.due("number " + i, x, x.come(0), i, 0);
        }
        Check.due("an eighth", x, x.come(0), -1, 4);
        Check.due("an eighth nowhere", x, x.come(60), -1, 1);
        Check.due("seven", x.told(0), 7);
    }

    private static void rule() {
        ToastMap x = new ToastMap();
        int[] least = {0, 0, 0, 1, 0, 1, 1};
        int[] most = {0, 16, 16, 99, 30, 20, 9};
        for (int what = 1; what <= 6; what++) {
            Check.due("least", x, x.rule(what, least[what]), true, 0);
            Check.due("least told", x.told(what), least[what]);
            Check.due("most", x, x.rule(what, most[what]), true, 0);
            Check.due("below", x, x.rule(what, least[what] - 1), false, 1);
            Check.due("above", x, x.rule(what, most[what] + 1), false, 1);
            Check.due("most told", x.told(what), most[what]);
        }
        Check.due("what 0", x, x.rule(0, 0), false, 1);
        Check.due("what 7", x, x.rule(7, 1), false, 1);
        Check.due("what -1", x, x.rule(-1, 1), false, 1);
        Check.due("what large", x, x.rule(LARGE, 1), false, 1);
    }
}
