/** Promises 51 to 55: TIMES that are lived, means, MARKS. */
public final class TimesTest {
    private static final String TWO = "person a at 0 meant 2 warm 30 glasses 2; person b at 10 warm 5; toast a to b;";

    public static void main(String[] args) {
        live();
        tests();
        loops();
        missed();
        any();
        stop();
        mostSteps();
        lived();
        mean();
        mark();
        undo();
        Check.end("TimesTest");
    }

    private static ToastMap with(String map, String times) {
        ToastMap x = Check.of(map);
        if (Check.times(x, times) < 0) {
            Check.due("times of " + times + " fault " + x.fault(0) + " at " + x.fault(1), 9, 0);
        }
        return x;
    }

    private static void counts(String what, ToastMap x, int... want) {
        for (int i = 0; i < want.length; i++) {
            Check.due(what + ", lived " + i, x, x.lived(i), want[i], 0);
        }
    }

    private static void live() {
        ToastMap x = with(TWO, "drink a; evening; night 2; fill b 7;");
        Check.due("live", x, x.live(0), 4, 0);
        Check.due("a", x.person(0, 2), 15);
        Check.due("b", x.person(1, 2), 10);
        Check.due("glasses of a", x.person(0, 3), 1);
        Check.due("glasses of b", x.person(1, 3), 7);
        Check.due("night", x.told(7), 3);
        counts("all done", x, 0, 3, 1, 1, 0);
        Check.due("from how all is now", x, x.live(9999), 4, 0);
        Check.due("a then", x.person(0, 2), 0);
        counts("once more", x, 1, 3, 1, 1, 0);
        Check.due("seed 10000", x, x.live(10000), -1, 1);
        Check.due("seed -1", x, x.live(-1), -1, 1);
        Check.due("nothing then", x.told(7), 6);
        ToastMap y = new ToastMap();
        Check.due("no times", y, y.live(0), -1, 6);
        Check.due("1 ahead of 6", y, y.live(-1), -1, 1);
        Check.times(y, "");
        Check.due("times without steps", y, y.live(0), 0, 0);
        counts("without steps", y, 0, 0, 0, 0, 0);
    }

    private static void test(String test, boolean holds) {
        ToastMap x = with(TWO, "when " + test + "; night 1; end; fill a 9;");
        Check.due("steps by " + test, x, x.live(0), holds ? 3 : 2, 0);
        Check.due("night by " + test, x.told(7), holds ? 1 : 0);
        Check.due("filled by " + test, x.person(0, 3), 9);
        counts("by " + test, x, 0, holds ? 1 : 0);
    }

    private static void tests() {
        test("lit a", true);
        test("lit b", false);
        test("warm a > 29", true);
        test("warm a > 30", false);
        test("warm a = 30", true);
        test("warm a = 31", false);
        test("warm a < 31", true);
        test("warm a < 30", false);
        test("glasses b < 3", true);
        test("glasses b < 2", false);
        test("glasses b = 2", true);
        test("glasses b = 0", false);
        test("glasses b > 1", true);
        test("glasses b > 2", false);
    }

    private static void loops() {
        ToastMap x = with("person a at 0;", "loop 3; night 2; end; night 1;");
        Check.due("a loop counts once", x, x.live(0), 5, 0);
        Check.due("seven nights", x.told(7), 7);
        x = with("person a at 0;", "loop 4; loop 5; night 1; end; end;");
        Check.due("the inner one each time", x, x.live(0), 1 + 4 + 20, 0);
        Check.due("twenty", x.told(7), 20);
        x = with("person a at 0;", "loop 99; end; night 1;");
        Check.due("an empty one", x, x.live(0), 2, 0);
        x = with("person a at 0;", "loop 2; when lit a; end; night 1; end;");
        Check.due("a when that does not hold counts", x, x.live(0), 5, 0);
        x = with("person a at 0 glasses 0; person b at 0; toast b to a; glow 10;",
                "loop 3; when lit a; night 1; end; when glasses b > 0; drink b; end; end;");
        Check.due("tests each time anew", x, x.live(0), 1 + 3 + 4 + 3, 0);
        counts("tests each time anew", x, 0, 2, 2, 0, 0);
    }

    private static void missed() {
        ToastMap x = with("person a at 0 glasses 1; person b at 0; toast a to b;", "drink b; drink a; drink a; fill b 2; fill b 3;");
        Check.due("missed count", x, x.live(0), 5, 0);
        counts("no whom, no glass, as many", x, 3, 0, 1, 0, 0);
        ToastMap y = new ToastMap();
        for (int i = 0; i < 101; i++) {
            y.night(99);
        }
        Check.times(y, "night 1; evening; any;");
        y.live(0);
        counts("beyond 9,999", y, 3, 0, 0, 0, 0);
        ToastMap z = new ToastMap();
        for (int i = 0; i < 100; i++) {
            z.night(99);
        }
        z.night(96);
        Check.due("9,996", z.told(7), 9996);
        Check.times(z, "night 4; night 2; night 2; evening; evening;");
        z.live(0);
        counts("as a whole", z, 3, 3, 0, 1, 0);
        Check.due("the last", z.told(7), 9999);
        ToastMap w = new ToastMap();
        for (int i = 0; i < 101; i++) {
            w.night(99);
        }
        w.come(0);
        w.rule(1, 0);
        Check.times(w, "any;");
        w.live(0);
        counts("a night by any", w, 1, 0, 0, 0, 0);
        w.rule(1, 16);
        w.live(0);
        counts("a drink by any", w, 1, 0, 0, 0, 0);
    }

    /** The draws as the document tells them, with whom they fall on. */
    private static void any() {
        for (int seed = 0; seed < 10000; seed += 37) {
            ToastMap x = with("person a at 0 glasses 9; person b at 0 glasses 9; person c at 0 glasses 9;"
                    + "toast a to b; toast b to c; toast c to a; heat 1; cool 0;", "loop 8; any; end;");
            Check.due("seed " + seed, x, x.live(seed), 9, 0);
            int[] glasses = {9, 9, 9};
            int nights = 0;
            int s = seed;
            for (int i = 0; i < 8; i++) {
                s = (s * 3261 + 11491) % 65536;
                int person = s / 8 % 3;
                s = (s * 3261 + 11491) % 65536;
                if (s / 8 % 16 < 12) {
                    glasses[person]--;
                } else {
                    nights++;
                }
            }
            for (int p = 0; p < 3; p++) {
                Check.due("glasses of " + p + " by seed " + seed, x.person(p, 3), glasses[p]);
            }
            counts("by seed " + seed, x, 0, nights, 8 - nights, 0, 0);
        }
        ToastMap z = with("person a at 0; cool 1;", "any;");
        z.rule(1, 0);
        z.live(77);
        counts("a night by one alone", z, 0, 1, 0, 0, 0);
        ToastMap y = new ToastMap();
        Check.times(y, "any;");
        Check.due("any without people", y, y.live(5), 1, 0);
        counts("any without people", y, 1, 0, 0, 0, 0);
    }

    private static void stop() {
        ToastMap x = with("person a at 0;", "night 1; loop 5; night 1; stop; night 1; end; night 1;");
        Check.due("stop counts", x, x.live(0), 4, 0);
        counts("stop", x, 0, 2, 0, 0, 0);
    }

    private static void mostSteps() {
        ToastMap x = with("person a at 0;", "loop 99; fill a 1; fill a 2; fill a 3; end;");
        Check.due("just 298", x, x.live(0), 298, 0);
        counts("nothing left", x, 0, 0, 0, 0, 0);
        x = with("person a at 0;", "night 1; night 1; loop 99; fill a 1; fill a 2; fill a 3; end;");
        Check.due("just 300", x, x.live(0), 300, 0);
        counts("nothing left of 300", x, 0, 2, 0, 0, 0);
        x = with("person a at 0;", "night 1; night 1; loop 99; fill a 1; fill a 2; fill a 3; end; stop;");
        Check.due("300 of 301", x, x.live(0), 300, 0);
        counts("a stop left", x, 0, 2, 0, 0, 1);
        x = with("person a at 0;", "night 1; stop; loop 99; end;");
        x.live(0);
        counts("left by stop", x, 0, 1, 0, 0, 0);
        x = with("person a at 0;", "loop 99; loop 99; night 20; end; end;");
        Check.due("300 of very many", x, x.live(0), 300, 0);
        counts("cut", x, 0, (300 - 4) * 20, 0, 0, 1);
        x = with("person a at 0;", "loop 99; loop 99; loop 99; end; end; end;");
        Check.due("empty ones", x, x.live(0), 300, 0);
        counts("empty ones", x, 0, 0, 0, 0, 1);
    }

    private static void lived() {
        ToastMap x = with(TWO, "drink b; evening; any;");
        Check.due("none yet", x, x.lived(0), -1, 6);
        Check.due("what 5", x, x.lived(5), -1, 1);
        Check.due("what -1", x, x.lived(-1), -1, 1);
        x.mark();
        x.live(0);
        Check.due("missed", x, x.lived(0), 1, 0);
        x.undo();
        Check.due("whatever came behind it", x, x.lived(0), 1, 0);
        x.mean(0, 5);
        x.live(-1);
        Check.map(x, "");
        x.live(0);
        Check.due("evenings", x, x.lived(3), 1, 0);
        Check.due("what 5 then", x, x.lived(5), -1, 1);
    }

    private static void mean() {
        ToastMap x = with(TWO, "loop 5; any; end; evening;");
        int sum = 0;
        for (int seed = 100; seed < 120; seed++) {
            x.mark();
            x.live(seed);
            sum += x.told(10);
            x.undo();
        }
        int missed = x.lived(0);
        Check.due("mean", x, x.mean(100, 20), true, 0);
        Check.due("by twenty", x.top() * 20, sum * x.bottom());
        Check.due("all stays", x.told(10), 35);
        Check.due("the night stays", x.told(7), 0);
        Check.due("what was lived stays", x.lived(0), missed);
        Check.due("seed -1", x, x.mean(-1, 1), false, 1);
        Check.due("seed 10000", x, x.mean(10000, 1), false, 1);
        Check.due("the last", x, x.mean(9999, 1), true, 0);
        Check.due("above the last", x, x.mean(9999, 2), false, 1);
        Check.due("from 9980", x, x.mean(9980, 20), true, 0);
        Check.due("from 9981", x, x.mean(9981, 20), false, 1);
        Check.due("many 0", x, x.mean(0, 0), false, 1);
        Check.due("many 21", x, x.mean(0, 21), false, 1);
        Check.due("many large", x, x.mean(9999, Integer.MAX_VALUE), false, 1);
        ToastMap y = with(TWO, "night 1;");
        Check.fraction("without draws", y, y.mean(0, 3), 25, 1);
        ToastMap z = new ToastMap();
        Check.due("no times", z, z.mean(0, 1), false, 6);
        Check.due("1 ahead of 6", z, z.mean(0, 0), false, 1);
        Check.times(z, "any;");
        Check.fraction("nobody", z, z.mean(0, 7), 0, 1);
    }

    private static void mark() {
        ToastMap x = new ToastMap();
        for (int i = 1; i <= 3; i++) {
            Check.due("mark " + i, x, x.mark(), i, 0);
        }
        Check.due("a fourth", x, x.mark(), -1, 4);
        Check.due("two left", x, x.undo(), 2, 0);
        Check.due("a third again", x, x.mark(), 3, 0);
    }

    private static void undo() {
        ToastMap x = with(TWO, "night 2;");
        x.tray(0, 0, 1);
        x.mark();
        x.night(1);
        x.rule(3, 50);
        x.mark();
        Check.map(x, "person q at 7;");
        x.come(3);
        x.write(0, 0, 9);
        x.feed(0x616e793b, 0, 0, 0, 0);
        Check.due("to the latest", x, x.undo(), 1, 0);
        Check.due("people", x.told(0), 2);
        Check.due("night", x.told(7), 1);
        Check.due("glow", x.told(3), 50);
        Check.due("the times are back", x, x.live(0), 1, 0);
        Check.due("trays stay", x.read(0, 0), 9);
        Check.due("the tape stays", x, x.times(4), 1, 0);
        Check.due("names are back", x, Check.times(x, "drink a; drink b;"), 2, 0);
        x.drink(0);
        x.fill(1, 8);
        x.means(0, 8);
        x.move(0, 8);
        x.aim(1, 0);
        Check.due("to the first", x, x.undo(), 0, 0);
        int[] want = {0, 2, 30, 2, 1};
        for (int what = 0; what < want.length; what++) {
            Check.due("a, " + what, x.person(0, what), want[what]);
        }
        Check.due("b's glasses", x.person(1, 3), 2);
        Check.due("b's whom", x, x.person(1, 4), -1, 6);
        Check.due("glow of then", x.told(3), 20);
        Check.due("night of then", x.told(7), 0);
        x.live(0);
        Check.due("times of then", x.told(7), 2);
        Check.due("no mark", x, x.undo(), -1, 6);
        ToastMap y = Check.of(TWO);
        y.mark();
        Check.times(y, "night 1;");
        y.undo();
        Check.due("no times then", y, y.live(0), -1, 6);
    }
}
