/** Promises 39 to 50: who warms whom, laws, tests, games, shares. */
public final class WarmsTest {
    private static final int LARGE = Integer.MAX_VALUE;

    public static void main(String[] args) {
        fits();
        firstOf();
        oddsThat();
        ask();
        statusOfNights();
        laws();
        lawOf();
        error();
        cut();
        game();
        moveOf();
        share();
        copyWarmth();
        Check.end("WarmsTest");
    }

    private static ToastMap people(int many) {
        ToastMap x = new ToastMap();
        for (int i = 0; i < many; i++) {
            x.come(0);
        }
        return x;
    }

    private static void lay(ToastMap x, int tray, int sort, long... row) {
        x.tray(tray, sort, row.length);
        for (int i = 0; i < row.length; i++) {
            x.write(tray, i, row[i]);
        }
    }

    private static void fits() {
        int[] ways = {1, 0, 1, 2, 9, 44, 265, 1854};
        for (int many = 0; many <= 7; many++) {
            ToastMap x = people(many);
            lay(x, 0, 0);
            Check.due("nothing seen, " + many, x, x.fits(0, 0), ways[many], 0);
        }
        ToastMap x = people(4);
        lay(x, 0, 0, 3, 12, 1, 4);
        Check.due("no night", x, x.fits(0, 0), 9, 0);
        Check.due("two to the other two", x, x.fits(0, 1), 4, 0);
        Check.due("and 0 to 2", x, x.fits(0, 2), 2, 0);
        x.aim(0, 1);
        Check.due("whatever whom is told", x, x.fits(0, 2), 2, 0);
        lay(x, 0, 0, 3, 4);
        Check.due("two warm one", x, x.fits(0, 1), 0, 0);
        lay(x, 0, 0, 1, 6);
        Check.due("one warms two", x, x.fits(0, 1), 0, 0);
        lay(x, 0, 0, 0, 0, 15, 15);
        Check.due("nobody, everybody", x, x.fits(0, 2), 9, 0);
        lay(x, 0, 0, 1, 1);
        Check.due("himself", x, x.fits(0, 1), 0, 0);
        ToastMap y = people(0);
        lay(y, 1, 2, 0, 0);
        Check.due("without people", y, y.fits(1, 1), 1, 0);
        Check.due("a set without people", y.write(1, 1, 1), true);
        Check.due("what there is none of", y, y.fits(1, 1), -1, 5);
    }

    private static void firstOf() {
        ToastMap x = people(5);
        lay(x, 2, 1, 1, 4, 6, 17);
        int[] free = {1, 0, 3, 4, 2};
        for (int p = 0; p < 5; p++) {
            Check.due("free, whom of " + p, x, x.firstOf(2, 0, p), free[p], 0);
        }
        int[] seen = {2, 0, 4, 1, 3};
        for (int p = 0; p < 5; p++) {
            Check.due("seen, whom of " + p, x, x.firstOf(2, 2, p), seen[p], 0);
        }
        Check.due("no person", x, x.firstOf(2, 0, 5), -1, 1);
        Check.due("person -1", x, x.firstOf(2, 0, -1), -1, 1);
        Check.due("1 ahead of 2", x, x.firstOf(1, 0, 5), -1, 1);
        Check.due("missing", x, x.firstOf(1, 0, 0), -1, 2);
        Check.due("too few", x, x.firstOf(2, 3, 0), -1, 3);
        x.write(2, 3, 32);
        Check.due("no such set", x, x.firstOf(2, 2, 0), -1, 5);
        Check.due("only the first", x, x.firstOf(2, 1, 0), 2, 0);
        x.write(2, 3, 0);
        Check.due("no such way", x, x.firstOf(2, 2, 0), -1, 6);
    }

    private static void oddsThat() {
        ToastMap x = people(4);
        lay(x, 0, 0, 1, 12);
        Check.fraction("free", x, x.oddsThat(0, 0, 0, 1), 1, 3);
        lay(x, 0, 0, 3, 12);
        Check.fraction("one of two", x, x.oddsThat(0, 1, 0, 2), 1, 2);
        Check.fraction("never", x, x.oddsThat(0, 1, 0, 1), 0, 1);
        lay(x, 0, 0, 1, 4);
        Check.fraction("always", x, x.oddsThat(0, 1, 0, 2), 1, 1);
        Check.fraction("1 to 0 then", x, x.oddsThat(0, 1, 1, 0), 1, 3);
        Check.due("himself", x, x.oddsThat(0, 1, 1, 1), false, 1);
        Check.due("no other", x, x.oddsThat(0, 1, 1, 4), false, 1);
        Check.due("no person", x, x.oddsThat(0, 1, -1, 0), false, 1);
        Check.due("missing", x, x.oddsThat(1, 1, 1, 0), false, 2);
        Check.due("too few", x, x.oddsThat(0, 2, 1, 0), false, 3);
        x.write(0, 0, -1);
        Check.due("below 0", x, x.oddsThat(0, 1, 1, 0), false, 5);
        x.write(0, 0, 0);
        Check.due("no such way", x, x.oddsThat(0, 1, 1, 0), false, 6);
        Check.due("top stays", x.top(), 1);
        Check.due("bottom stays", x.bottom(), 3);
    }

    private static void ask() {
        ToastMap x = people(4);
        lay(x, 0, 0, 1, 4, 2, 1);
        Check.due("all alike", x, x.ask(0, 0), 0, 0);
        Check.due("0 is known, and 2 parts the three ways", x, x.ask(0, 1), 2, 0);
        Check.due("one way", x, x.ask(0, 2), -1, 6);
        lay(x, 0, 0, 1, 1);
        Check.due("no way", x, x.ask(0, 1), -1, 6);
        Check.due("tray 4", x, x.ask(4, 0), -1, 1);
        Check.due("11 nights", x, x.ask(0, 11), -1, 1);
        Check.due("missing", x, x.ask(3, 0), -1, 2);
        Check.due("too few", x, x.ask(0, 2), -1, 3);
        x.write(0, 0, 16);
        Check.due("no such set", x, x.ask(0, 1), -1, 5);
        Check.due("two people", people(2).ask(0, 0), -1);
    }

    private static void statusOfNights() {
        ToastMap x = people(3);
        lay(x, 0, 3, new long[20]);
        Check.due("ten nights", x, x.fits(0, 10), 2, 0);
        Check.due("11 nights", x, x.fits(0, 11), -1, 1);
        Check.due("-1 nights", x, x.fits(0, -1), -1, 1);
        Check.due("large", x, x.fits(0, LARGE), -1, 1);
        Check.due("tray -1", x, x.fits(-1, 0), -1, 1);
        Check.due("missing", x, x.fits(1, 10), -1, 2);
        lay(x, 0, 3, new long[19]);
        Check.due("too few", x, x.fits(0, 10), -1, 3);
        x.write(0, 18, 99);
        Check.due("the first nine", x, x.fits(0, 9), 2, 0);
        x.write(0, 17, 1L << 32);
        Check.due("2^32 is no set", x, x.fits(0, 9), -1, 5);
        x.write(0, 17, 8);
        Check.due("8 of three", x, x.fits(0, 9), -1, 5);
    }

    private static void laws() {
        ToastMap x = new ToastMap();
        lay(x, 0, 1, 2, 10, 15, 1, 59, 0, 9, 0, 180);
        Check.due("none seen", x, x.laws(0, 0), 180, 0);
        Check.due("one", x, x.laws(0, 1), 6, 0);
        lay(x, 1, 1, 9, 0, 180);
        Check.due("heat 20, any reach", x, x.laws(1, 1), 9, 0);
        lay(x, 1, 1, 0, 0, 1);
        Check.due("none fits", x, x.laws(1, 1), 0, 0);
        lay(x, 1, 1, 0, 59, 0);
        Check.due("0 at least", x, x.laws(1, 1), 180, 0);
        lay(x, 1, 1, 1, 59, 0);
        Check.due("0 by all heats up to far", x, x.laws(1, 1), 20 + 20 + 19 + 14 + 11 + 9 + 8 + 7 + 6, 0);
        long[][] bad = {{10, 0, 0}, {-1, 0, 0}, {0, 60, 0}, {0, -1, 0}, {0, 0, 201}, {0, 0, -1}};
        for (long[] row : bad) {
            lay(x, 1, 1, row);
            Check.due("can't be", x, x.laws(1, 1), -1, 5);
            Check.due("can't be, of none", x, x.laws(1, 0), 180, 0);
            Check.due("can't be, lawOf", x, x.lawOf(1, 1, 0), -1, 5);
        }
        lay(x, 1, 1, 0, 0, 0, 0, 0, 0, 0, 0, 201);
        Check.due("the third can't be", x, x.laws(1, 3), -1, 5);
        Check.due("the first two can", x, x.laws(1, 2), 180, 0);
        lay(x, 1, 1, 0, 0, 200);
        Check.due("200 can be", x, x.laws(1, 1), 0, 0);
        lay(x, 1, 0, 9, 0, 180);
        Check.due("180 of 8 bits is below 0", x, x.laws(1, 1), -1, 5);
        lay(x, 2, 0, new long[45]);
        Check.due("15 threes", x, x.laws(2, 15), 180, 0);
        Check.due("16 threes", x, x.laws(2, 16), -1, 1);
        Check.due("-1 threes", x, x.laws(2, -1), -1, 1);
        Check.due("tray 4", x, x.laws(4, 0), -1, 1);
        Check.due("missing", x, x.laws(3, 0), -1, 2);
        lay(x, 2, 0, new long[44]);
        Check.due("too few", x, x.laws(2, 15), -1, 3);
    }

    private static void lawOf() {
        ToastMap x = new ToastMap();
        lay(x, 0, 1, 2, 10, 15, 2, 30, 8);
        Check.due("heat", x, x.lawOf(0, 1, 0), 8, 0);
        Check.due("reach", x, x.lawOf(0, 1, 1), 6, 0);
        Check.due("two, heat", x, x.lawOf(0, 2, 0), 9, 0);
        Check.due("two, reach", x, x.lawOf(0, 2, 1), 3, 0);
        lay(x, 1, 1, 9, 59, 174);
        Check.due("heat 20", x, x.lawOf(1, 1, 0), 20, 0);
        Check.due("reach 9", x, x.lawOf(1, 1, 1), 9, 0);
        Check.due("that alone", x, x.laws(1, 1), 1, 0);
        Check.due("first of all, heat", x, x.lawOf(0, 0, 0), 1, 0);
        Check.due("first of all, reach", x, x.lawOf(0, 0, 1), 1, 0);
        Check.due("what 2", x, x.lawOf(0, 0, 2), -1, 1);
        Check.due("what -1", x, x.lawOf(0, 0, -1), -1, 1);
        Check.due("16 threes", x, x.lawOf(0, 16, 0), -1, 1);
        Check.due("1 ahead of 2", x, x.lawOf(3, 0, 2), -1, 1);
        Check.due("missing", x, x.lawOf(3, 0, 0), -1, 2);
        Check.due("too few", x, x.lawOf(0, 3, 0), -1, 3);
        lay(x, 0, 1, 0, 0, 7);
        Check.due("none fits", x, x.lawOf(0, 1, 0), -1, 6);
    }

    private static void error() {
        ToastMap x = new ToastMap();
        Check.fraction("one glass, it does not warm", x, x.error(1, 1, 0), 1, 4);
        Check.fraction("one glass, a sham warms", x, x.error(1, 1, 1), 1, 4);
        Check.fraction("two of two", x, x.error(2, 2, 0), 7, 16);
        Check.fraction("two of two, a sham", x, x.error(2, 2, 1), 1, 16);
        Check.fraction("cut 0", x, x.error(12, 0, 0), 0, 1);
        Check.fraction("cut 0, a sham", x, x.error(12, 0, 1), 1, 1);
        Check.fraction("cut above n", x, x.error(3, 4, 0), 1, 1);
        Check.fraction("cut above n, a sham", x, x.error(3, 13, 1), 0, 1);
        Check.fraction("no glasses", x, x.error(0, 1, 0), 1, 1);
        x.rule(1, 15);
        x.rule(2, 1);
        Check.fraction("12 glasses", x, x.error(12, 1, 0), 1, 1L << 48);
        Check.fraction("12 of 12, a sham", x, x.error(12, 12, 1), 1, 1L << 48);
        Check.fraction("12 of 12", x, x.error(12, 12, 0), (1L << 48) - 129746337890625L, 1L << 48);
        x.rule(1, 16);
        x.rule(2, 0);
        Check.fraction("sure", x, x.error(12, 12, 0), 0, 1);
        Check.fraction("sure of a sham", x, x.error(12, 1, 1), 0, 1);
        Check.due("n 13", x, x.error(13, 0, 0), false, 1);
        Check.due("n -1", x, x.error(-1, 0, 0), false, 1);
        Check.due("k 14", x, x.error(0, 14, 0), false, 1);
        Check.due("k -1", x, x.error(0, -1, 0), false, 1);
        Check.due("what 2", x, x.error(0, 0, 2), false, 1);
        Check.due("what -1", x, x.error(0, 0, -1), false, 1);
    }

    private static void cut() {
        ToastMap x = new ToastMap();
        Check.due("no glasses", x, x.cut(0), 0, 0);
        Check.due("one", x, x.cut(1), 1, 0);
        Check.due("two: 1 and 2 are alike", x, x.cut(2), 1, 0);
        Check.due("three", x, x.cut(3), 2, 0);
        Check.due("twelve: 6 and 7 are alike", x, x.cut(12), 6, 0);
        x.rule(1, 4);
        Check.due("alike", x, x.cut(12), 0, 0);
        x.rule(1, 0);
        Check.due("a sham warms more", x, x.cut(12), 0, 0);
        x.rule(1, 16);
        x.rule(2, 15);
        Check.due("all of them", x, x.cut(12), 12, 0);
        Check.due("n 13", x, x.cut(13), -1, 1);
        Check.due("n -1", x, x.cut(-1), -1, 1);
    }

    private static void game() {
        ToastMap x = Check.of("person a at 0 meant 2 glasses 1; person b at 0; toast a to b;");
        Check.due("no turns", x, x.game(0), 0, 0);
        Check.due("one drink", x, x.game(1), 1, 0);
        Check.due("then cooled", x, x.game(2), 0, 0);
        Check.due("the glass is kept for the third", x, x.game(3), 1, 0);
        Check.due("and cooled", x, x.game(4), 0, 0);
        x.fill(0, 2);
        Check.due("two glasses", x, x.game(4), 1, 0);
        Check.due("nothing changes", x.told(10), 0);
        Check.due("no glass goes", x.told(11), 4);
        x.rule(4, 0);
        Check.due("takes nothing", x, x.game(2), 1, 0);
        Check.due("n 5", x, x.game(5), -1, 1);
        Check.due("n -1", x, x.game(-1), -1, 1);
        ToastMap z = Check.of("person a at 0 warm 25; person b at 0 warm 26;");
        Check.due("taken once", z, z.game(2), 2, 0);
        Check.due("taken twice from one", z, z.game(4), 1, 0);
        ToastMap y = Check.of("person a at 0 warm 20; person b at 0 warm 20;");
        Check.due("the butler has nothing", y, y.game(1), 2, 0);
        Check.due("one of two", y, y.game(2), 1, 0);
        Check.due("neither", y, y.game(4), 0, 0);
    }

    private static void moveOf() {
        ToastMap x = Check.of("person a at 0 meant 2 glasses 1; person b at 0 meant 2; toast a to b;");
        Check.due("he", x, x.moveOf(1), 0, 0);
        Check.due("as good as nothing", x, x.moveOf(2), 0, 0);
        Check.due("nothing is better", x, x.moveOf(3), -1, 6);
        x.aim(1, 0);
        Check.due("the first of two", x, x.moveOf(1), 0, 0);
        x.move(0, 20);
        x.means(1, 4);
        Check.due("the second is better", x, x.moveOf(1), 1, 0);
        x.fill(0, 0);
        x.fill(1, 0);
        Check.due("no glass", x, x.moveOf(1), -1, 6);
        Check.due("n 0", x, x.moveOf(0), -1, 1);
        Check.due("n 5", x, x.moveOf(5), -1, 1);
        Check.due("n -1", x, x.moveOf(-1), -1, 1);
        ToastMap y = new ToastMap();
        Check.due("nobody", y, y.moveOf(4), -1, 6);
    }

    private static void share() {
        ToastMap x = Check.of("person a at 0 warm 30; person b at 0 warm 70; person c at 0;");
        Check.fraction("3 by 10", x, x.share(0), 3, 10);
        Check.fraction("7 by 10", x, x.share(1), 7, 10);
        Check.fraction("none of it", x, x.share(2), 0, 1);
        Check.due("person 3", x, x.share(3), false, 1);
        Check.due("person -1", x, x.share(-1), false, 1);
        x.night(6);
        Check.fraction("all of it", x, x.share(1), 1, 1);
        x.night(99);
        Check.due("nobody has any", x, x.share(1), false, 6);
        Check.due("1 ahead of 6", x, x.share(3), false, 1);
        Check.due("top stays", x.top(), 1);
    }

    private static void copyWarmth() {
        ToastMap x = Check.of("person a at 0 warm 30; person b at 0 warm 99;");
        lay(x, 0, 0, 7, 7, 7);
        Check.due("copied", x, x.copyWarmth(0), 2, 0);
        Check.due("a", x.read(0, 0), 30);
        Check.due("b", x.read(0, 1), 99);
        Check.due("the rest stays", x.read(0, 2), 7);
        lay(x, 0, 0, 7);
        Check.due("too few", x, x.copyWarmth(0), -1, 3);
        Check.due("it stays", x.read(0, 0), 7);
        Check.due("missing", x, x.copyWarmth(1), -1, 2);
        Check.due("tray 4", x, x.copyWarmth(4), -1, 1);
        Check.due("tray -1", x, x.copyWarmth(-1), -1, 1);
        ToastMap y = new ToastMap();
        y.tray(3, 3, 0);
        Check.due("nobody", y, y.copyWarmth(3), 0, 0);
    }
}
