/** As many PEOPLE as there can be, and fewer where more were: every call, told by hand. */
public final class SevenTest {
    private static final String SEVEN =
            "person a at 0 warm 20 glasses 9; person b at 10 meant 2 warm 10; person c at 20 meant 3;"
            + "person d at 30 meant 4 warm 40 glasses 0; person e at 40 meant 5 glasses 1; person f at 50 warm 99;"
            + "person g at 59 meant 9 warm 1; reach 2;"
            + "toast a to b; toast b to c; toast c to a; toast d to e; toast e to d; toast f to a; toast g to f;";

    public static void main(String[] args) {
        seven();
        fewerThen();
        Check.end("SevenTest");
    }

    private static void seven() {
        ToastMap x = Check.of(SEVEN);
        Check.due("people", x, x.told(0), 7, 0);
        Check.due("lit", x, x.told(8), 1 + 8 + 32, 0);
        Check.due("whom", x, x.told(9), 127, 0);
        Check.due("all warmth", x, x.told(10), 170, 0);
        Check.due("all glasses", x, x.told(11), 18, 0);
        int[] warm = {5, 15, 20, 35, 45, 0, 86};
        for (int p = 0; p < 7; p++) {
            Check.due("warm of " + p, x, x.person(p, 5), warm[p], 0);
        }
        Check.due("those of a", x, x.person(0, 6), 4 + 32, 0);
        Check.due("rings", x, x.rings(), 2, 0);
        Check.due("in rings", x, x.inRings(), 31, 0);
        Check.due("chain of g", x, x.chain(6), 5, 0);
        Check.due("needs of b", x, x.needs(1), 2, 0);
        Check.due("needs of c", x, x.needs(2), 2, 0);
        Check.due("needs of e", x, x.needs(4), -1, 6);
        Check.due("most by 2", x, x.mostSet(2), 1 + 2 + 8 + 32, 0);
        Check.due("most by 4", x, x.mostSet(4), 1 + 2 + 4 + 8 + 32, 0);
        Check.due("lit in 1", x, x.litIn(1), 8 + 16 + 32, 0);
        Check.due("d is missed by e", x, x.misses(3), 16, 0);
        Check.due("f is not missed", x, x.misses(5), 0, 0);
        Check.due("evening", x, x.evening(), 1 + 8 + 32, 0);
        int[] then = {15, 10, 0, 35, 30, 94, 0};
        x.tray(0, 0, 7);
        Check.due("copied", x, x.copyWarmth(0), 7, 0);
        for (int p = 0; p < 7; p++) {
            Check.due("warmth of " + p, x, x.read(0, p), then[p], 0);
        }
        Check.fraction("share of f", x, x.share(5), 47, 92);
        Check.due("game", x, x.game(4), 4, 0);
        Check.due("settles", x.settles() >= 0, true);
    }

    private static void fewerThen() {
        ToastMap x = Check.of(SEVEN);
        Check.map(x, "person h at 1 warm 5; person i at 3 warm 7;");
        Check.due("people", x, x.told(0), 2, 0);
        Check.due("nobody is lit", x, x.told(8), 0, 0);
        Check.due("nobody has whom", x, x.told(9), 0, 0);
        Check.due("all warmth", x, x.told(10), 12, 0);
        Check.due("all glasses", x, x.told(11), 4, 0);
        Check.due("no ring", x, x.inRings(), 0, 0);
        Check.due("nobody's whom", x, x.person(0, 6), 0, 0);
        Check.due("settles", x, x.settles(), 2, 0);
        Check.due("most", x, x.mostSet(20), 0, 0);
        Check.due("the old names are gone", x, Check.times(x, "drink a;"), -1, 9);
        Check.due("no such name", x.fault(0), 3);
        Check.due("one more", x, x.come(9), 2, 0);
        Check.due("without whom", x, x.person(2, 4), -1, 6);
        Check.due("without a name", x, Check.times(x, "drink c;"), -1, 9);
        x.tray(0, 0, 0);
        Check.due("ways of three", x, x.fits(0, 0), 2, 0);
    }
}
