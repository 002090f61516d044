/** Promises 9 to 15: the tape, MAP and TIMES as texts, their FAULTS, what is told. */
public final class TextsTest {
    private static final int LARGE = Integer.MAX_VALUE;
    private static final int SMALL = Integer.MIN_VALUE;
    private static final String THREE =
            "person a at 2 meant 3 warm 25 glasses 4; person b at 9; person c at 59 warm 99;"
            + "toast a to b; toast b to a;";

    public static void main(String[] args) {
        feed();
        map();
        mapTokens();
        mapOrder();
        mapNumbers();
        mapNames();
        mapTwice();
        mapTakesPlace();
        times();
        timesFaults();
        fault();
        told();
        person();
        far();
        Check.end("TextsTest");
    }

    private static void feed() {
        ToastMap x = new ToastMap();
        x.told(99);
        for (int i = 1; i <= 45; i++) {
            Check.due("feed " + i, x.feed(0x20202020, 0x0a0a0a0a, 0, 0, 0), 20 * i);
        }
        Check.due("feed beyond 900", x.feed(1, 2, 3, 4, 5), -1);
        Check.due("feed has no status", x.status(), 1);
        Check.due("901 of 900", x, x.map(901), -1, 1);
        Check.due("the tape is as it was", x, x.map(900), -1, 9);
        Check.due("byte 8", x.fault(1), 8);
        Check.due("empty then", x.feed(0x67, 0x6c6f7720, 0x3333203b, 0, 0), 20);
        x.map(0);
        x.feed(0x676c6f77, 0x2033333b, 0, 0, 0);
        Check.due("the highest byte first", x, x.map(8), 0, 0);
        Check.due("glow", x.told(3), 33);
    }

    private static void map() {
        ToastMap x = new ToastMap();
        Check.due("n below 0", x, x.map(-1), -1, 1);
        Check.due("n small", x, x.map(SMALL), -1, 1);
        Check.due("n large", x, x.map(LARGE), -1, 1);
        Check.feed(x, "cool 3;heat 4;");
        Check.due("n above the tape", x, x.map(21), -1, 1);
        Check.due("a part of the tape", x, x.map(7), 0, 0);
        Check.due("cool", x.told(4), 3);
        Check.due("heat", x.told(5), 10);
        Check.due("empty then", x, x.map(1), -1, 1);
        Check.due("blanks alone", x, Check.map(x, " \n \n"), 0, 0);
        Check.due("cool anew", x.told(4), 5);
        Check.due("no blanks but where they must be", x, Check.map(x, "odds16;person a at59meant9warm99glasses9;"), 1, 0);
        Check.due("place", x.person(0, 0), 59);
        Check.due("warmth", x.person(0, 2), 99);
        Check.due("many blanks", x, Check.map(x, "\n person\n\n b  at 0007 ; "), 1, 0);
        Check.due("four digits", x.person(0, 0), 7);
        String seven = "";
        for (int i = 0; i < 7; i++) {
            seven += "person " + (char) ('p' + i) + " at " + i + ";";
        }
        Check.due("seven", x, Check.map(x, seven), 7, 0);
        Check.mapFault(seven + "person", 6, seven.length());
        Check.mapFault(seven + "persons", 2, seven.length());
        Check.due("eight letters", x, Check.map(x, "person abcdefgh at 1;person abcdefg at 2;"), 2, 0);
    }

    private static void mapTokens() {
        Check.mapFault("A", 1, 0);
        Check.mapFault("odds 1;\t", 1, 7);
        Check.mapFault("odds 1;\r", 1, 7);
        Check.mapFault("odds \u00e9;", 1, 5);
        Check.mapFault("odds 12345;", 1, 5);
        Check.mapFault("12345", 1, 0);
        Check.mapFault("person p at 1 meant 00001;", 1, 20);
        Check.mapFault("person_a at 1;", 1, 6);
        Check.mapFault("odds , 99", 1, 5);
    }

    private static void mapOrder() {
        Check.mapFault("odds", 2, 4);
        Check.mapFault("odds  ", 2, 6);
        Check.mapFault("odds 1", 2, 6);
        Check.mapFault("odds 1 odds", 2, 7);
        Check.mapFault(";", 2, 0);
        Check.mapFault("<", 2, 0);
        Check.mapFault("1", 2, 0);
        Check.mapFault("drink a;", 2, 0);
        Check.mapFault("abcdefghijk", 2, 0);
        Check.mapFault("odds = 1;", 2, 5);
        Check.mapFault("person 1 at 1;", 2, 7);
        Check.mapFault("person at at 1;", 2, 7);
        Check.mapFault("person abcdefghi at 1;", 2, 7);
        Check.mapFault("person p to 1;", 2, 9);
        Check.mapFault("person p at x;", 2, 12);
        Check.mapFault("person p at 1 glasses 1 warm 1;", 2, 24);
        Check.mapFault("person p at 1 warm 1 meant 1;", 2, 21);
        Check.mapFault("person p at 1 meant 1 meant 1;", 2, 22);
        Check.mapFault("person p at 1 meant;", 2, 19);
        Check.mapFault("toast;", 2, 5);
        Check.mapFault("person a at 1;person b at 1;toast a b;", 2, 36);
        Check.mapFault("person a at 1;person b at 1;toast a to b", 2, 40);
        Check.mapFault("person a at 1;person b at 1;toast a to lit;", 2, 39);
        String[] kept = {"odds", "sham", "glow", "cool", "heat", "reach", "person", "at", "meant", "warm",
            "glasses", "toast", "to", "drink", "night", "evening", "fill", "any", "when", "lit", "loop", "end", "stop"};
        for (String word : kept) {
            Check.mapFault("person " + word + " at 1;", 2, 7);
            Check.due("longer than " + word, Check.of("person " + word.substring(1) + "q at 1;").told(0), 1);
        }
    }

    private static void mapNumbers() {
        String[] words = {"odds", "sham", "glow", "cool", "heat", "reach"};
        int[] least = {0, 0, 1, 0, 1, 1};
        int[] most = {16, 16, 99, 30, 20, 9};
        for (int i = 0; i < 6; i++) {
            Check.due("least " + words[i], Check.of(words[i] + " " + least[i] + ";").told(i + 1), least[i]);
            Check.due("most " + words[i], Check.of(words[i] + " " + most[i] + ";").told(i + 1), most[i]);
            int at = words[i].length() + 1;
            Check.mapFault(words[i] + " " + (most[i] + 1) + ";", 4, at);
            Check.mapFault(words[i] + " 9999", 4, at);
            if (least[i] == 1) {
                Check.mapFault(words[i] + " 0;", 4, at);
            }
        }
        Check.mapFault("person p at 60;", 4, 12);
        Check.mapFault("person p at 1 meant 10;", 4, 20);
        Check.mapFault("person p at 1 warm 100;", 4, 19);
        Check.mapFault("person p at 1 glasses 10;", 4, 22);
    }

    private static void mapNames() {
        Check.mapFault("person a at 1;person a", 3, 21);
        Check.mapFault("toast a to b;", 3, 6);
        Check.mapFault("person a at 1;toast a to b;", 3, 25);
        Check.mapFault("person a at 1;toast a to b; person b at 1;", 3, 25);
        Check.mapFault("person a at 1;toast q to a;", 3, 20);
    }

    private static void mapTwice() {
        Check.mapFault("odds 1;sham 1;odds 1;", 5, 14);
        Check.mapFault("reach 1;reach", 5, 8);
        Check.mapFault("person a at 1;toast a to a;", 5, 25);
        Check.mapFault("person a at 1;person b at 1;toast a to b;toast a", 5, 47);
        Check.due("two to one", Check.of("person a at 1;person b at 1;person c at 2;toast a to b;toast c to b;").told(9), 5);
    }

    private static void mapTakesPlace() {
        ToastMap x = Check.of("person a at 1; glow 7;");
        Check.times(x, "night 3;");
        x.live(0);
        Check.due("night 3", x.told(7), 3);
        Check.due("a fault", x, Check.map(x, "person b at 99;"), -1, 9);
        Check.due("the night stays", x.told(7), 3);
        Check.due("the times stay", x, x.live(0), 1, 0);
        Check.due("another map", x, Check.map(x, "person b at 2;"), 1, 0);
        Check.due("night 0", x.told(7), 0);
        Check.due("glow without", x.told(3), 20);
        Check.due("no times", x, x.live(0), -1, 6);
        Check.due("by the new names", x, Check.times(x, "drink b;"), 1, 0);
        Check.timesFault(x, "drink a;", 3, 6);
    }

    private static void times() {
        ToastMap x = Check.of(THREE);
        Check.due("each step", x, Check.times(x, "drink a;night 20;evening;fill b 9;any;stop;when lit a;end;loop 99;end;"), 8, 0);
        Check.due("tests", x, Check.times(x, "when warm a<99;when glasses b>9;when warm c=0;any;end;end;end;"), 4, 0);
        Check.due("no steps", x, Check.times(x, ""), 0, 0);
        Check.due("n below 0", x, x.times(-1), -1, 1);
        Check.due("n above the tape", x, x.times(1), -1, 1);
        String blanks = "";
        for (int i = 0; i < 296; i++) {
            blanks += " ";
        }
        Check.feed(x, blanks + "any;    any;");
        Check.due("301 bytes", x, x.times(301), -1, 1);
        Check.due("300 bytes", x, x.times(300), 1, 0);
        Check.due("the tape is empty then", x, x.times(1), -1, 1);
        String thirty = "";
        for (int i = 0; i < 30; i++) {
            thirty += "any;";
        }
        Check.due("thirty", x, Check.times(x, thirty), 30, 0);
        Check.due("the names of all", x, Check.times(x, "drink b;drink c;"), 2, 0);
    }

    private static void timesFaults() {
        ToastMap x = Check.of(THREE);
        Check.times(x, "any;");
        Check.timesFault(x, "any;?", 1, 4);
        Check.timesFault(x, "night 12345;", 1, 6);
        Check.timesFault(x, "any", 2, 3);
        Check.timesFault(x, "person", 2, 0);
        Check.timesFault(x, "lit a;", 2, 0);
        Check.timesFault(x, "a;", 2, 0);
        Check.timesFault(x, "end;", 2, 0);
        Check.timesFault(x, "loop 2;end;end;", 2, 11);
        Check.timesFault(x, "loop 2;any;", 2, 11);
        Check.timesFault(x, "loop 2;any;end", 2, 14);
        Check.timesFault(x, "loop 2 any;", 2, 7);
        Check.timesFault(x, "drink;", 2, 5);
        Check.timesFault(x, "drink abcdefghi;", 2, 6);
        Check.timesFault(x, "drink end;", 2, 6);
        Check.timesFault(x, "drink d;", 3, 6);
        Check.timesFault(x, "fill d 1;", 3, 5);
        Check.timesFault(x, "when lit d;", 3, 9);
        Check.timesFault(x, "when warm d;", 3, 10);
        Check.timesFault(x, "when a;", 2, 5);
        Check.timesFault(x, "when lit a<1;", 2, 10);
        Check.timesFault(x, "when warm a;", 2, 11);
        Check.timesFault(x, "when warm a 5;", 2, 12);
        Check.timesFault(x, "when warm a<;", 2, 12);
        Check.timesFault(x, "when warm a<=5;", 2, 12);
        Check.timesFault(x, "when warm a<100;", 4, 12);
        Check.timesFault(x, "when glasses a>10;", 4, 15);
        Check.timesFault(x, "night 0;", 4, 6);
        Check.timesFault(x, "night 21;", 4, 6);
        Check.timesFault(x, "fill a 10;", 4, 7);
        Check.timesFault(x, "loop 0;", 4, 5);
        Check.timesFault(x, "loop 100;", 4, 5);
        String deep = "loop 2;when lit a;loop 3;";
        Check.timesFault(x, deep + "when", 7, deep.length());
        Check.timesFault(x, deep + "loop", 7, deep.length());
        Check.due("beside, not within", x, Check.times(x, deep + "end;loop 1;end;end;end;"), 4, 0);
        Check.times(x, "any;");
        String thirty = "";
        for (int i = 0; i < 27; i++) {
            thirty += "any;";
        }
        Check.timesFault(x, thirty + deep + "stop", 6, thirty.length() + deep.length());
        Check.timesFault(x, thirty + deep + "when", 6, thirty.length() + deep.length());
        Check.timesFault(x, thirty + deep + "lit", 2, thirty.length() + deep.length());
        Check.due("the old ones stay", x, x.live(1), 1, 0);
        Check.due("ends are none", x, Check.times(x, thirty + deep + "end;end;end;"), 30, 0);
    }

    private static void fault() {
        ToastMap x = new ToastMap();
        Check.due("ahead of any", x.fault(0), -1);
        x.map(5);
        Check.due("behind status 1", x.fault(0), -1);
        Check.map(x, "glow 0;");
        Check.due("kind", x.fault(0), 4);
        Check.due("place", x.fault(1), 5);
        Check.due("others", x.fault(2), -1);
        Check.due("below", x.fault(-1), -1);
        x.times(7);
        Check.due("status 1 leaves it", x.fault(0), 4);
        Check.times(x, "any;");
        Check.due("without one", x.fault(0), 0);
        Check.due("without a place", x.fault(1), -1);
        Check.times(x, "anys;");
        Check.due("of times", x.fault(0), 2);
        Check.due("of times, place", x.fault(1), 0);
        x.mark();
        Check.map(x, "");
        x.undo();
        Check.due("of the latest", x.fault(0), 0);
    }

    private static void told() {
        ToastMap x = Check.of(THREE + "odds 1;sham 2;glow 3;cool 4;heat 5;reach 6;");
        x.night(1);
        int[] want = {3, 1, 2, 3, 4, 5, 6, 1, 5, 3, 21 + 95, 8};
        for (int what = 0; what < want.length; what++) {
            Check.due("told " + what, x, x.told(what), want[what], 0);
        }
        Check.due("told -1", x, x.told(-1), -1, 1);
        Check.due("told 12", x, x.told(12), -1, 1);
        Check.due("told large", x, x.told(LARGE), -1, 1);
        x.rule(3, 21);
        Check.due("glow or more", x.told(8), 5);
        x.rule(3, 22);
        Check.due("less than glow", x.told(8), 4);
    }

    private static void person() {
        ToastMap x = Check.of(THREE);
        int[] want = {2, 3, 25, 4, 1, 23, 2};
        for (int what = 0; what < want.length; what++) {
            Check.due("person 0, " + what, x, x.person(0, what), want[what], 0);
        }
        int[] without = {9, 1, 0, 2, 0, 3, 1};
        for (int what = 0; what < want.length; what++) {
            Check.due("person 1, " + what, x, x.person(1, what), without[what], 0);
        }
        Check.due("no whom", x, x.person(2, 4), -1, 6);
        Check.due("no warm", x, x.person(2, 5), -1, 6);
        Check.due("whose he is", x, x.person(2, 6), 0, 0);
        Check.due("what 7", x, x.person(0, 7), -1, 1);
        Check.due("what -1", x, x.person(0, -1), -1, 1);
        Check.due("person 3", x, x.person(3, 0), -1, 1);
        Check.due("person -1", x, x.person(-1, 4), -1, 1);
        x.aim(2, 0);
        Check.due("0 at least", x, x.person(2, 5), 0, 0);
        Check.due("of two", x, x.person(0, 6), 6, 0);
        x.means(2, 9);
        x.rule(5, 20);
        x.rule(6, 9);
        Check.due("57 by 9, rounded down", x, x.person(2, 5), 174, 0);
    }

    private static void far() {
        ToastMap x = Check.of(THREE);
        Check.due("far", x, x.far(0, 2), 57, 0);
        Check.due("far back", x, x.far(2, 0), 57, 0);
        Check.due("from himself", x, x.far(1, 1), 0, 0);
        Check.due("no person", x, x.far(3, 0), -1, 1);
        Check.due("no other", x, x.far(0, -1), -1, 1);
        Check.due("neither", x, x.far(3, 3), -1, 1);
    }
}
