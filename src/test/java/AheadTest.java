/** Promises 25 to 38: what is ahead, chains, who can be lit. */
public final class AheadTest {
    private static final int LARGE = Integer.MAX_VALUE;

    public static void main(String[] args) {
        warmIn();
        darkIn();
        eveningsAhead();
        lastNight();
        settles();
        chain();
        longChain();
        rings();
        needs();
        most();
        misses();
        Check.end("AheadTest");
    }

    private static void warmIn() {
        ToastMap x = Check.of("person a at 0 warm 99; person b at 0; toast a to b; cool 2;");
        Check.due("in none", x, x.warmIn(0, 0), 99, 0);
        Check.due("in 49", x, x.warmIn(0, 49), 1, 0);
        Check.due("in 50", x, x.warmIn(0, 50), 0, 0);
        Check.due("in 60", x, x.warmIn(0, 60), 0, 0);
        Check.due("in 61", x, x.warmIn(0, 61), -1, 1);
        Check.due("in -1", x, x.warmIn(0, -1), -1, 1);
        Check.due("person 2", x, x.warmIn(2, 0), -1, 1);
        Check.due("nothing changes", x.person(0, 2), 99);
        Check.due("no night goes by", x.told(7), 0);
    }

    private static void darkIn() {
        ToastMap x = Check.of("person a at 0 warm 99; person b at 0 warm 0; cool 1; glow 1;");
        Check.due("in 99", x, x.darkIn(0), 99, 0);
        Check.due("he is not", x, x.darkIn(1), 0, 0);
        x.rule(3, 99);
        Check.due("in 1", x, x.darkIn(0), 1, 0);
        x.rule(4, 0);
        Check.due("in none", x, x.darkIn(0), -1, 6);
        Check.due("he is not, without cool", x, x.darkIn(1), 0, 0);
        Check.due("person 2", x, x.darkIn(2), -1, 1);
        Check.due("person -1", x, x.darkIn(-1), -1, 1);
    }

    private static void eveningsAhead() {
        ToastMap x = Check.of("person a at 0 meant 2 warm 30; person b at 10; person c at 30 meant 3;"
                + "toast a to b; toast b to c; toast c to a; reach 2;");
        int[] a = {30, 25, 20, 15, 10};
        int[] b = {0, 10, 20, 30, 25};
        int[] c = {0, 0, 0, 0, 0};
        int[] lit = {1, 1, 3, 2, 2};
        for (int i = 0; i < 5; i++) {
            Check.due("a in " + i, x, x.eveningIn(0, i), a[i], 0);
            Check.due("b in " + i, x, x.eveningIn(1, i), b[i], 0);
            Check.due("c in " + i, x, x.eveningIn(2, i), c[i], 0);
            Check.due("lit in " + i, x, x.litIn(i), lit[i], 0);
        }
        Check.due("in 60", x, x.eveningIn(0, 60), 0, 0);
        Check.due("in 61", x, x.eveningIn(0, 61), -1, 1);
        Check.due("in -1", x, x.eveningIn(0, -1), -1, 1);
        Check.due("person 3", x, x.eveningIn(3, 1), -1, 1);
        Check.due("lit in 60", x, x.litIn(60), 0, 0);
        Check.due("lit in 61", x, x.litIn(61), -1, 1);
        Check.due("lit in -1", x, x.litIn(-1), -1, 1);
        Check.due("nothing changes", x.told(10), 30);
        Check.due("no night goes by", x.told(7), 0);
    }

    private static void lastNight() {
        ToastMap x = new ToastMap();
        for (int i = 0; i < 101; i++) {
            x.night(99);
        }
        x.come(0);
        x.come(0);
        x.aim(0, 1);
        x.rule(3, 1);
        x.fill(0, 9);
        x.aim(1, 0);
        x.drink(1);
        Check.due("the last night", x.told(7), 9999);
        Check.due("warm in", x, x.warmIn(0, 1), 5, 0);
        Check.due("evening in", x, x.eveningIn(1, 1), 5, 0);
        Check.due("lit in", x, x.litIn(1), 3, 0);
        Check.due("misses", x, x.misses(0), 2, 0);
        Check.due("settles", x.settles() >= 0, true);
    }

    private static void settles() {
        ToastMap x = new ToastMap();
        Check.due("nobody", x, x.settles(), 0, 0);
        Check.due("nobody's period", x, x.period(), 1, 0);
        // a and b each warm the other by 5, as much as the night takes.
        ToastMap y = Check.of("person a at 0 warm 50; person b at 5 warm 40; person c at 0 warm 7; toast a to b; toast b to a;");
        Check.due("c is cold in 2", y, y.settles(), 2, 0);
        Check.due("then as it is", y, y.period(), 1, 0);
        // c alone, lit by nobody, cools one by one.
        ToastMap z = Check.of("person a at 0 warm 99; cool 1;");
        Check.due("99 nights", z, z.settles(), 99, 0);
        Check.due("period 1", z, z.period(), 1, 0);
        // Three in a ring: one is lit at a time, and hands it on.
        ToastMap w = Check.of("person a at 0 meant 3 warm 20; person b at 0 meant 3; person c at 0 meant 3;"
                + "toast a to b; toast b to c; toast c to a; glow 20; cool 30; heat 20;");
        Check.due("handed on", w, w.litIn(1), 2, 0);
        Check.due("and on", w, w.litIn(2), 4, 0);
        Check.due("and on again", w, w.litIn(3), 1, 0);
        Check.due("from the second on", w, w.settles(), 1, 0);
        Check.due("by threes", w, w.period(), 3, 0);
        Check.due("nothing changes", w.told(10), 20);
    }

    private static void chain() {
        ToastMap x = Check.of("person a at 0; person b at 0; person c at 0; person d at 0;"
                + "toast a to b; toast b to c; toast c to b;");
        Check.due("into a ring", x, x.chain(0), 3, 0);
        Check.due("of a ring", x, x.chain(1), 2, 0);
        Check.due("alone", x, x.chain(3), 1, 0);
        Check.due("he", x, x.chainAt(0, 0), 0, 0);
        Check.due("his", x, x.chainAt(0, 1), 1, 0);
        Check.due("his whom's", x, x.chainAt(0, 2), 2, 0);
        Check.due("no more", x, x.chainAt(0, 3), -1, 6);
        Check.due("none alone", x, x.chainAt(3, 1), -1, 6);
        Check.due("k large", x, x.chainAt(1, LARGE), -1, 6);
        Check.due("k below 0", x, x.chainAt(0, -1), -1, 1);
        Check.due("person 4", x, x.chainAt(4, 0), -1, 1);
        Check.due("chain of 4", x, x.chain(4), -1, 1);
        Check.due("chain of -1", x, x.chain(-1), -1, 1);
    }

    private static void longChain() {
        ToastMap x = new ToastMap();
        for (int i = 0; i < 7; i++) {
            x.come(i);
        }
        for (int i = 0; i < 6; i++) {
            x.aim(i, i + 1);
        }
        Check.due("seven long", x, x.chain(0), 7, 0);
        Check.due("the last", x, x.chainAt(0, 6), 6, 0);
        x.aim(6, 0);
        for (int i = 0; i < 7; i++) {
            Check.due("round from " + i, x, x.chain(i), 7, 0);
            Check.due("the one ahead of " + i, x, x.chainAt(i, 6), (i + 6) % 7, 0);
        }
        Check.due("no eighth", x, x.chainAt(0, 7), -1, 6);
        Check.due("one ring", x, x.rings(), 1, 0);
        Check.due("of all", x, x.inRings(), 127, 0);
    }

    private static void rings() {
        ToastMap x = new ToastMap();
        for (int i = 0; i < 7; i++) {
            x.come(i);
        }
        Check.due("none", x, x.rings(), 0, 0);
        Check.due("nobody", x, x.inRings(), 0, 0);
        int[] whom = {4, 2, 1, 0, 3, 4, 5};
        for (int i = 0; i < 7; i++) {
            x.aim(i, whom[i]);
        }
        Check.due("two", x, x.rings(), 2, 0);
        Check.due("five of seven", x, x.inRings(), 31, 0);
        x.aim(3, 6);
        Check.due("two still", x, x.rings(), 2, 0);
        Check.due("0 hangs on it", x, x.inRings(), 126, 0);
        x.aim(6, 1);
        Check.due("one", x, x.rings(), 1, 0);
        Check.due("of two", x, x.inRings(), 6, 0);
    }

    private static void needs() {
        ToastMap x = Check.of("person a at 0 warm 20; person b at 0 meant 1 glasses 9; person c at 0 meant 3 glasses 1; person d at 0 warm 5;"
                + "toast b to d; toast c to d; toast a to b; toast d to a; glow 20;");
        Check.due("he is", x, x.needs(0), 0, 0);
        Check.due("the warmest first", x, x.needs(3), 1, 0);
        x.rule(3, 36);
        Check.due("then the others", x, x.needs(3), 2, 0);
        x.rule(3, 99);
        Check.due("30 and seven tens", x, x.needs(3), 8, 0);
        x.fill(1, 6);
        Check.due("one short", x, x.needs(3), -1, 6);
        Check.due("nobody warms him", x, x.needs(2), -1, 6);
        x.means(0, 0);
        Check.due("warm by 0", x, x.needs(1), -1, 6);
        ToastMap y = Check.of("person a at 0 glasses 9; person b at 9; toast a to b; glow 9;");
        Check.due("one by one", y, y.needs(1), 9, 0);
        y.rule(3, 10);
        Check.due("one too much", y, y.needs(1), -1, 6);
        Check.due("person 4", x, x.needs(4), -1, 1);
        Check.due("person -1", x, x.needs(-1), -1, 1);
        Check.due("nothing changes", x.person(3, 2), 5);
    }

    private static void most() {
        ToastMap x = Check.of("person a at 0 meant 2; person b at 0 meant 2; person c at 0 meant 1; person d at 0 warm 20;"
                + "toast a to b; toast b to a; toast c to d; toast d to c;");
        Check.due("by none", x, x.most(0), 1, 0);
        Check.due("those who are", x, x.mostSet(0), 8, 0);
        Check.due("by one", x, x.most(1), 2, 0);
        Check.due("the least set", x, x.mostSet(1), 9, 0);
        Check.due("by two", x, x.mostSet(2), 11, 0);
        Check.due("by three", x, x.mostSet(3), 11, 0);
        Check.due("by four", x, x.mostSet(4), 15, 0);
        Check.due("by 20", x, x.most(20), 4, 0);
        Check.due("by 21", x, x.most(21), -1, 1);
        Check.due("by -1", x, x.most(-1), -1, 1);
        Check.due("set by 21", x, x.mostSet(21), -1, 1);
        Check.due("set by -1", x, x.mostSet(-1), -1, 1);
        x.fill(0, 0);
        Check.due("b can't be", x, x.mostSet(20), 13, 0);
        Check.due("b can't be, how many", x, x.most(20), 3, 0);
    }

    private static void misses() {
        ToastMap x = Check.of("person a at 0 warm 30; person b at 0 warm 15; person c at 0 warm 30; person d at 0 warm 15;"
                + "toast a to b; toast c to d; toast b to a;");
        Check.due("a is missed by b", x, x.misses(0), 2, 0);
        Check.due("c by d", x, x.misses(2), 8, 0);
        Check.due("b does not warm", x, x.misses(1), 0, 0);
        x.aim(3, 1);
        x.aim(2, 1);
        Check.due("neither of two", x, x.misses(0), 0, 0);
        Check.due("nor the other", x, x.misses(2), 0, 0);
        x.rule(3, 30);
        Check.due("both of two", x, x.misses(0), 2, 0);
        Check.due("and the other", x, x.misses(2), 2, 0);
        Check.due("person 4", x, x.misses(4), -1, 1);
        Check.due("person -1", x, x.misses(-1), -1, 1);
        Check.due("nothing changes", x.told(10), 90);
    }
}
