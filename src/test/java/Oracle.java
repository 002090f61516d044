import java.math.BigInteger;
import java.util.ArrayList;
import java.util.Arrays;
import java.util.HashSet;
import java.util.LinkedHashMap;
import java.util.List;
import java.util.Map;
import java.util.Set;
import java.util.TreeSet;

/**
 * The document once more, in its slowest and plainest form, without regard to
 * ToastMap's own ways: everything is gone through one by one. It has the same face,
 * so that the same calls can be put to both.
 */
public final class Oracle {
    private static final class Wrong extends RuntimeException {
        private static final long serialVersionUID = 1;
        final int status;

        Wrong(int status) {
            this.status = status;
        }
    }

    private static final class Fault extends RuntimeException {
        private static final long serialVersionUID = 1;
        final int kind;
        final int place;

        Fault(int kind, int place) {
            this.kind = kind;
            this.place = place;
        }
    }

    private static final class Halt extends RuntimeException {
        private static final long serialVersionUID = 1;
    }

    private static final class Person {
        String name;
        int place;
        int meant = 1;
        int warmth;
        int glasses = 2;
        Person whom;
    }

    private static final class State {
        final List<Person> people = new ArrayList<>();
        int odds = 12;
        int sham = 4;
        int glow = 20;
        int cool = 5;
        int heat = 10;
        int reach = 1;
        int night;
        List<Step> times;

        State copy() {
            State s = new State();
            s.odds = odds;
            s.sham = sham;
            s.glow = glow;
            s.cool = cool;
            s.heat = heat;
            s.reach = reach;
            s.night = night;
            s.times = times;
            for (Person p : people) {
                Person q = new Person();
                q.name = p.name;
                q.place = p.place;
                q.meant = p.meant;
                q.warmth = p.warmth;
                q.glasses = p.glasses;
                s.people.add(q);
            }
            for (int i = 0; i < people.size(); i++) {
                if (people.get(i).whom != null) {
                    s.people.get(i).whom = s.people.get(people.indexOf(people.get(i).whom));
                }
            }
            return s;
        }

        int warm(Person p) {
            int apart = p.place > p.whom.place ? p.place - p.whom.place : p.whom.place - p.place;
            int less = apart / reach;
            return heat * p.meant < less ? 0 : heat * p.meant - less;
        }

        boolean lit(Person p) {
            return p.warmth >= glow;
        }

        boolean canDrink(Person p) {
            return p.whom != null && p.glasses > 0;
        }

        void drink(Person p) {
            p.glasses--;
            p.whom.warmth += warm(p);
            if (p.whom.warmth > 99) {
                p.whom.warmth = 99;
            }
        }

        void nightGoesBy() {
            night++;
            for (Person p : people) {
                p.warmth = p.warmth < cool ? 0 : p.warmth - cool;
            }
        }

        int evening(Person away) {
            Map<Person, Integer> more = new LinkedHashMap<>();
            int set = 0;
            for (int i = 0; i < people.size(); i++) {
                Person p = people.get(i);
                if (lit(p) && p.whom != null && p != away) {
                    more.merge(p.whom, warm(p), Integer::sum);
                    set += 1 << i;
                }
            }
            for (Map.Entry<Person, Integer> e : more.entrySet()) {
                e.getKey().warmth = Math.min(99, e.getKey().warmth + e.getValue());
            }
            nightGoesBy();
            return set;
        }

        int litSet() {
            int set = 0;
            for (int i = 0; i < people.size(); i++) {
                set += lit(people.get(i)) ? 1 << i : 0;
            }
            return set;
        }

        int all() {
            return people.stream().mapToInt(p -> p.warmth).sum();
        }

        List<Integer> warmths() {
            List<Integer> list = new ArrayList<>();
            people.forEach(p -> list.add(p.warmth));
            return list;
        }
    }

    private static final class Step {
        String word;
        String test;
        int person = -1;
        char sign;
        int number;
        List<Step> inner = new ArrayList<>();
    }

    private State now = new State();
    private final List<State> marks = new ArrayList<>();
    private final Object[] trays = new Object[4];
    private final StringBuilder tape = new StringBuilder();
    private int status;
    private BigInteger top = BigInteger.ZERO;
    private BigInteger bottom = BigInteger.ONE;
    private int faultKind = -1;
    private int faultPlace = -1;
    private int[] livedCounts;

    public int status() {
        return status;
    }

    public long top() {
        return top.longValueExact();
    }

    public long bottom() {
        return bottom.longValueExact();
    }

    private interface Body {
        long run();
    }

    private long call(Body body) {
        try {
            long answer = body.run();
            status = 0;
            return answer;
        } catch (Wrong w) {
            status = w.status;
            return -1;
        }
    }

    private int number(Body body) {
        return (int) call(body);
    }

    private boolean done(Body body) {
        call(body);
        return status == 0;
    }

    private static void unless(boolean fine, int status) {
        if (!fine) {
            throw new Wrong(status);
        }
    }

    private static void between(long n, long least, long most) {
        unless(least <= n && n <= most, 1);
    }

    private Person who(int person) {
        between(person, 0, now.people.size() - 1);
        return now.people.get(person);
    }

    private long tell(BigInteger part, BigInteger whole) {
        BigInteger gcd = part.gcd(whole);
        top = part.divide(gcd);
        bottom = whole.divide(gcd);
        return 1;
    }

    private long tell(long part, long whole) {
        return tell(BigInteger.valueOf(part), BigInteger.valueOf(whole));
    }

    private static int length(Object tray) {
        return java.lang.reflect.Array.getLength(tray);
    }

    private static long get(Object tray, int place) {
        return java.lang.reflect.Array.getLong(tray, place);
    }

    private static void set(Object tray, int place, long v) {
        if (tray instanceof byte[] b) {
            b[place] = (byte) v;
        } else if (tray instanceof short[] s) {
            s[place] = (short) v;
        } else if (tray instanceof int[] n) {
            n[place] = (int) v;
        } else {
            ((long[]) tray)[place] = v;
        }
    }

    private Object trayOf(int tray) {
        between(tray, 0, 3);
        unless(trays[tray] != null, 2);
        return trays[tray];
    }

    public boolean tray(int tray, int sort, int many) {
        return done(() -> {
            between(tray, 0, 3);
            between(sort, 0, 3);
            between(many, 0, 60);
            Object[] rows = {new byte[many], new short[many], new int[many], new long[many]};
            trays[tray] = rows[sort];
            return 1;
        });
    }

    public boolean write(int tray, int place, long v) {
        return done(() -> {
            Object row = trayOf(tray);
            unless(place >= 0 && place < length(row), 3);
            set(row, place, v);
            return 1;
        });
    }

    public long read(int tray, int place) {
        return call(() -> {
            Object row = trayOf(tray);
            unless(place >= 0 && place < length(row), 3);
            return get(row, place);
        });
    }

    public boolean pour(int from, int place, int to, int at, int many) {
        return done(() -> {
            between(from, 0, 3);
            between(to, 0, 3);
            unless(place >= 0 && at >= 0 && many >= 0, 1);
            Object a = trayOf(from);
            Object b = trayOf(to);
            unless(a.getClass() == b.getClass(), 8);
            unless((long) place + many <= length(a) && (long) at + many <= length(b), 3);
            System.arraycopy(a, place, b, at, many);
            return 1;
        });
    }

    public int feed(int a, int b, int c, int d, int e) {
        if (tape.length() + 20 > 900) {
            return -1;
        }
        for (int v : new int[] {a, b, c, d, e}) {
            for (byte x : java.nio.ByteBuffer.allocate(4).putInt(v).array()) {
                tape.append((char) (x & 255));
            }
        }
        return tape.length();
    }

    // ---- texts

    private static final Set<String> KEPT = Set.of("odds", "sham", "glow", "cool", "heat", "reach", "person", "at",
            "meant", "warm", "glasses", "toast", "to", "drink", "night", "evening", "fill", "any", "when", "lit",
            "loop", "end", "stop");

    private static final class Tokens {
        final String text;
        final List<String> tokens = new ArrayList<>();
        final List<Integer> places = new ArrayList<>();
        int at;

        Tokens(String text) {
            this.text = text;
            java.util.regex.Matcher m = java.util.regex.Pattern.compile("[a-z]+|[0-9]+|(?s:.)").matcher(text);
            while (m.find()) {
                if (!m.group().equals(" ") && !m.group().equals("\n")) {
                    tokens.add(m.group());
                    places.add(m.start());
                }
            }
        }

        boolean ended() {
            return at == tokens.size();
        }

        String peek() {
            return ended() ? "" : tokens.get(at);
        }

        Fault fault(int kind) {
            boolean isToken = peek().matches("|[a-z]+|[0-9]{1,4}|[;<>=]");
            return new Fault(isToken ? kind : 1, ended() ? text.length() : places.get(at));
        }

        void take(String wanted) {
            if (ended() || !peek().equals(wanted)) {
                throw fault(2);
            }
            at++;
        }

        boolean perhaps(String wanted) {
            if (peek().equals(wanted)) {
                at++;
                return true;
            }
            return false;
        }

        int number(int least, int most) {
            if (!peek().matches("[0-9]{1,4}")) {
                throw fault(2);
            }
            int n = Integer.parseInt(peek());
            if (n < least || n > most) {
                throw fault(4);
            }
            at++;
            return n;
        }

        String name() {
            if (!peek().matches("[a-z]{1,8}") || KEPT.contains(peek())) {
                throw fault(2);
            }
            return peek();
        }

        Person known(State s) {
            String name = name();
            for (Person p : s.people) {
                if (name.equals(p.name)) {
                    return p;
                }
            }
            throw fault(3);
        }
    }

    private static State readMap(String text) {
        Tokens t = new Tokens(text);
        State s = new State();
        Set<String> told = new HashSet<>();
        while (!t.ended()) {
            String word = t.peek();
            if (List.of("odds", "sham", "glow", "cool", "heat", "reach").contains(word)) {
                if (!told.add(word)) {
                    throw t.fault(5);
                }
                t.at++;
                switch (word) {
                    case "odds" -> s.odds = t.number(0, 16);
                    case "sham" -> s.sham = t.number(0, 16);
                    case "glow" -> s.glow = t.number(1, 99);
                    case "cool" -> s.cool = t.number(0, 30);
                    case "heat" -> s.heat = t.number(1, 20);
                    default -> s.reach = t.number(1, 9);
                }
            } else if (word.equals("person")) {
                readPerson(t, s);
            } else if (word.equals("toast")) {
                t.at++;
                Person p = t.known(s);
                if (p.whom != null) {
                    throw t.fault(5);
                }
                t.at++;
                t.take("to");
                Person q = t.known(s);
                if (p == q) {
                    throw t.fault(5);
                }
                t.at++;
                p.whom = q;
            } else {
                throw t.fault(2);
            }
            t.take(";");
        }
        return s;
    }

    private static void readPerson(Tokens t, State s) {
        if (s.people.size() == 7) {
            throw t.fault(6);
        }
        t.at++;
        Person p = new Person();
        p.name = t.name();
        for (Person q : s.people) {
            if (q.name.equals(p.name)) {
                throw t.fault(3);
            }
        }
        t.at++;
        t.take("at");
        p.place = t.number(0, 59);
        if (t.perhaps("meant")) {
            p.meant = t.number(0, 9);
        }
        if (t.perhaps("warm")) {
            p.warmth = t.number(0, 99);
        }
        if (t.perhaps("glasses")) {
            p.glasses = t.number(0, 9);
        }
        s.people.add(p);
    }

    private static int count(List<Step> steps) {
        int many = 0;
        for (Step s : steps) {
            many += 1 + count(s.inner);
        }
        return many;
    }

    private int stepsRead;

    private List<Step> readSteps(Tokens t, int depth) {
        List<Step> list = new ArrayList<>();
        while (depth > 0 ? !t.peek().equals("end") : !t.ended()) {
            if (!List.of("drink", "night", "evening", "fill", "any", "when", "loop", "stop").contains(t.peek())) {
                throw t.fault(2);
            }
            if (stepsRead == 30) {
                throw t.fault(6);
            }
            if (depth == 3 && (t.peek().equals("when") || t.peek().equals("loop"))) {
                throw t.fault(7);
            }
            stepsRead++;
            Step s = new Step();
            s.word = t.peek();
            t.at++;
            readStep(t, s);
            t.take(";");
            if (s.word.equals("when") || s.word.equals("loop")) {
                s.inner = readSteps(t, depth + 1);
                t.take("end");
                t.take(";");
            }
            list.add(s);
        }
        return list;
    }

    private void readStep(Tokens t, Step s) {
        switch (s.word) {
            case "drink" -> readWho(t, s);
            case "night" -> s.number = t.number(1, 20);
            case "fill" -> {
                readWho(t, s);
                s.number = t.number(0, 9);
            }
            case "loop" -> s.number = t.number(1, 99);
            case "when" -> {
                s.test = t.peek();
                if (!List.of("lit", "warm", "glasses").contains(s.test)) {
                    throw t.fault(2);
                }
                t.at++;
                readWho(t, s);
                if (!s.test.equals("lit")) {
                    if (!List.of("<", ">", "=").contains(t.peek())) {
                        throw t.fault(2);
                    }
                    s.sign = t.peek().charAt(0);
                    t.at++;
                    s.number = t.number(0, s.test.equals("warm") ? 99 : 9);
                }
            }
            default -> { }
        }
    }

    private void readWho(Tokens t, Step s) {
        s.person = now.people.indexOf(t.known(now));
        t.at++;
    }

    private interface Reading {
        long of(String text);
    }

    private int text(int n, int most, Reading reading) {
        return number(() -> {
            between(n, 0, Math.min(most, tape.length()));
            String text = tape.substring(0, n);
            tape.setLength(0);
            faultKind = 0;
            faultPlace = -1;
            try {
                return reading.of(text);
            } catch (Fault f) {
                faultKind = f.kind;
                faultPlace = f.place;
                throw new Wrong(9);
            }
        });
    }

    public int map(int n) {
        return text(n, 900, text -> {
            now = readMap(text);
            return now.people.size();
        });
    }

    public int times(int n) {
        return text(n, 300, text -> {
            stepsRead = 0;
            now.times = readSteps(new Tokens(text), 0);
            return count(now.times);
        });
    }

    public int fault(int what) {
        return what == 0 ? faultKind : what == 1 ? faultPlace : -1;
    }

    public int told(int what) {
        return number(() -> {
            between(what, 0, 11);
            int whoms = 0;
            int glasses = 0;
            for (int i = 0; i < now.people.size(); i++) {
                whoms += now.people.get(i).whom != null ? 1 << i : 0;
                glasses += now.people.get(i).glasses;
            }
            return new int[] {now.people.size(), now.odds, now.sham, now.glow, now.cool, now.heat, now.reach,
                now.night, now.litSet(), whoms, now.all(), glasses}[what];
        });
    }

    public int person(int person, int what) {
        return number(() -> {
            Person p = who(person);
            between(what, 0, 6);
            switch (what) {
                case 0:
                    return p.place;
                case 1:
                    return p.meant;
                case 2:
                    return p.warmth;
                case 3:
                    return p.glasses;
                case 4:
                    unless(p.whom != null, 6);
                    return now.people.indexOf(p.whom);
                case 5:
                    unless(p.whom != null, 6);
                    return now.warm(p);
                default:
                    int set = 0;
                    for (int i = 0; i < now.people.size(); i++) {
                        set += now.people.get(i).whom == p ? 1 << i : 0;
                    }
                    return set;
            }
        });
    }

    public int far(int person, int other) {
        return number(() -> Math.abs(who(person).place - who(other).place));
    }

    // ---- what is done

    public int drink(int person) {
        return number(() -> {
            Person p = who(person);
            unless(now.canDrink(p), 7);
            now.drink(p);
            return p.whom.warmth;
        });
    }

    public int night(int nights) {
        return number(() -> {
            between(nights, 1, 99);
            unless(now.night + nights <= 9999, 4);
            for (int i = 0; i < nights; i++) {
                now.nightGoesBy();
            }
            return now.litSet();
        });
    }

    public int evening() {
        return number(() -> {
            unless(now.night < 9999, 4);
            return now.evening(null);
        });
    }

    public int fill(int person, int glasses) {
        return number(() -> {
            Person p = who(person);
            between(glasses, 0, 9);
            int old = p.glasses;
            p.glasses = glasses;
            return old;
        });
    }

    public int means(int person, int meant) {
        return number(() -> {
            Person p = who(person);
            between(meant, 0, 9);
            int old = p.meant;
            p.meant = meant;
            return old;
        });
    }

    public int move(int person, int place) {
        return number(() -> {
            Person p = who(person);
            between(place, 0, 59);
            int old = p.place;
            p.place = place;
            return old;
        });
    }

    public int aim(int person, int other) {
        return number(() -> {
            Person p = who(person);
            Person q = who(other);
            unless(p != q, 1);
            unless(p.whom != q, 7);
            Person old = p.whom;
            p.whom = q;
            return old == null ? now.people.size() : now.people.indexOf(old);
        });
    }

    public int come(int place) {
        return number(() -> {
            between(place, 0, 59);
            unless(now.people.size() < 7, 4);
            Person p = new Person();
            p.place = place;
            now.people.add(p);
            return now.people.size() - 1;
        });
    }

    public boolean rule(int what, int much) {
        return done(() -> {
            between(what, 1, 6);
            switch (what) {
                case 1 -> {
                    between(much, 0, 16);
                    now.odds = much;
                }
                case 2 -> {
                    between(much, 0, 16);
                    now.sham = much;
                }
                case 3 -> {
                    between(much, 1, 99);
                    now.glow = much;
                }
                case 4 -> {
                    between(much, 0, 30);
                    now.cool = much;
                }
                case 5 -> {
                    between(much, 1, 20);
                    now.heat = much;
                }
                default -> {
                    between(much, 1, 9);
                    now.reach = much;
                }
            }
            return 1;
        });
    }

    // ---- ahead

    private State inEvenings(int evenings) {
        State s = now.copy();
        for (int i = 0; i < evenings; i++) {
            s.evening(null);
        }
        return s;
    }

    public int warmIn(int person, int nights) {
        return number(() -> {
            who(person);
            between(nights, 0, 60);
            State s = now.copy();
            for (int i = 0; i < nights; i++) {
                s.nightGoesBy();
            }
            return s.people.get(person).warmth;
        });
    }

    public int darkIn(int person) {
        return number(() -> {
            who(person);
            State s = now.copy();
            for (int i = 0; i <= 99; i++) {
                if (!s.lit(s.people.get(person))) {
                    return i;
                }
                s.nightGoesBy();
            }
            throw new Wrong(6);
        });
    }

    public int eveningIn(int person, int evenings) {
        return number(() -> {
            who(person);
            between(evenings, 0, 60);
            return inEvenings(evenings).people.get(person).warmth;
        });
    }

    public int litIn(int evenings) {
        return number(() -> {
            between(evenings, 0, 60);
            return inEvenings(evenings).litSet();
        });
    }

    private int[] settled() {
        List<List<Integer>> seen = new ArrayList<>();
        State s = now.copy();
        for (int i = 0; i <= 200; i++) {
            seen.add(s.warmths());
            s.evening(null);
        }
        for (int k = 0; k < 200; k++) {
            for (int period = 1; k + period <= 200; period++) {
                if (seen.get(k).equals(seen.get(k + period))) {
                    return new int[] {k, period};
                }
            }
        }
        throw new Wrong(6);
    }

    public int settles() {
        return number(() -> settled()[0]);
    }

    public int period() {
        return number(() -> settled()[1]);
    }

    // ---- chains

    private List<Person> chainOf(int person) {
        List<Person> list = new ArrayList<>();
        for (Person p = who(person); p != null && !list.contains(p); p = p.whom) {
            list.add(p);
        }
        return list;
    }

    public int chain(int person) {
        return number(() -> chainOf(person).size());
    }

    public int chainAt(int person, int k) {
        return number(() -> {
            List<Person> list = chainOf(person);
            unless(k >= 0, 1);
            unless(k < list.size(), 6);
            return now.people.indexOf(list.get(k));
        });
    }

    private Set<Set<Integer>> ringSets() {
        Set<Set<Integer>> sets = new HashSet<>();
        for (int i = 0; i < now.people.size(); i++) {
            List<Person> list = chainOf(i);
            if (list.get(list.size() - 1).whom == now.people.get(i)) {
                Set<Integer> set = new TreeSet<>();
                list.forEach(p -> set.add(now.people.indexOf(p)));
                sets.add(set);
            }
        }
        return sets;
    }

    public int rings() {
        return number(() -> ringSets().size());
    }

    public int inRings() {
        return number(() -> {
            int all = 0;
            for (Set<Integer> set : ringSets()) {
                for (int i : set) {
                    all |= 1 << i;
                }
            }
            return all;
        });
    }

    // ---- who can be lit

    /** The most WARMTH that a PERSON can have by so many DRINKS, for each number of them. */
    private int needOf(Person person) {
        int[] best = new int[64];
        Arrays.fill(best, -1);
        best[0] = person.warmth;
        for (Person p : now.people) {
            for (int glass = 0; p.whom == person && glass < p.glasses; glass++) {
                for (int d = 63; d > 0; d--) {
                    if (best[d - 1] >= 0) {
                        best[d] = Math.max(best[d], best[d - 1] + now.warm(p));
                    }
                }
            }
        }
        for (int d = 0; d < 64; d++) {
            if (best[d] >= now.glow) {
                return d;
            }
        }
        return -1;
    }

    public int needs(int person) {
        return number(() -> {
            int need = needOf(who(person));
            unless(need >= 0, 6);
            return need;
        });
    }

    private int bestSet(int drinks) {
        between(drinks, 0, 20);
        List<Integer> sets = new ArrayList<>();
        for (int set = 0; set < 1 << now.people.size(); set++) {
            int sum = 0;
            for (int i = 0; i < now.people.size(); i++) {
                if ((set >> i & 1) == 1) {
                    int need = needOf(now.people.get(i));
                    sum += need < 0 ? 1000 : need;
                }
            }
            if (sum <= drinks) {
                sets.add(set);
            }
        }
        sets.sort((a, b) -> Integer.bitCount(a) != Integer.bitCount(b)
                ? Integer.bitCount(b) - Integer.bitCount(a) : a - b);
        return sets.get(0);
    }

    public int most(int drinks) {
        return number(() -> Integer.bitCount(bestSet(drinks)));
    }

    public int mostSet(int drinks) {
        return number(() -> bestSet(drinks));
    }

    public int misses(int person) {
        return number(() -> {
            who(person);
            State with = now.copy();
            with.evening(null);
            State without = now.copy();
            without.evening(without.people.get(person));
            int set = 0;
            for (int i = 0; i < now.people.size(); i++) {
                if (with.lit(with.people.get(i)) && !without.lit(without.people.get(i))) {
                    set += 1 << i;
                }
            }
            return set;
        });
    }

    // ---- who warms whom

    private void gather(int[] whom, int at, int n, Object row, int nights, List<int[]> found) {
        if (at == n) {
            for (int i = 0; i < nights; i++) {
                long warmed = 0;
                for (int p = 0; p < n; p++) {
                    if ((get(row, 2 * i) >> p & 1) == 1) {
                        warmed |= 1L << whom[p];
                    }
                }
                if (warmed != get(row, 2 * i + 1)) {
                    return;
                }
            }
            found.add(whom.clone());
            return;
        }
        for (int other = 0; other < n; other++) {
            boolean taken = other == at;
            for (int p = 0; p < at; p++) {
                taken |= whom[p] == other;
            }
            if (!taken) {
                whom[at] = other;
                gather(whom, at + 1, n, row, nights, found);
            }
        }
    }

    private List<int[]> ways(int tray, int nights) {
        between(tray, 0, 3);
        between(nights, 0, 10);
        Object row = trayOf(tray);
        unless(2 * nights <= length(row), 3);
        for (int i = 0; i < 2 * nights; i++) {
            unless(get(row, i) >= 0 && get(row, i) < 1 << now.people.size(), 5);
        }
        List<int[]> found = new ArrayList<>();
        gather(new int[now.people.size()], 0, now.people.size(), row, nights, found);
        return found;
    }

    public int fits(int tray, int n) {
        return number(() -> ways(tray, n).size());
    }

    public int firstOf(int tray, int n, int person) {
        return number(() -> {
            who(person);
            List<int[]> found = ways(tray, n);
            unless(!found.isEmpty(), 6);
            return found.get(0)[person];
        });
    }

    public boolean oddsThat(int tray, int n, int person, int other) {
        return done(() -> {
            unless(who(person) != who(other), 1);
            List<int[]> found = ways(tray, n);
            unless(!found.isEmpty(), 6);
            return tell(found.stream().filter(w -> w[person] == other).count(), found.size());
        });
    }

    public int ask(int tray, int n) {
        return number(() -> {
            List<int[]> found = ways(tray, n);
            unless(found.size() > 1, 6);
            int best = -1;
            long fewest = Long.MAX_VALUE;
            for (int p = 0; p < now.people.size(); p++) {
                long most = 0;
                for (int other = 0; other < now.people.size(); other++) {
                    int a = p;
                    int b = other;
                    most = Math.max(most, found.stream().filter(w -> w[a] == b).count());
                }
                if (most < fewest) {
                    fewest = most;
                    best = p;
                }
            }
            return best;
        });
    }

    // ---- by which law, tests

    private List<int[]> couples(int tray, int n) {
        between(tray, 0, 3);
        between(n, 0, 15);
        Object row = trayOf(tray);
        unless(3 * n <= length(row), 3);
        long[] most = {9, 59, 200};
        for (int i = 0; i < 3 * n; i++) {
            unless(get(row, i) >= 0 && get(row, i) <= most[i % 3], 5);
        }
        List<int[]> found = new ArrayList<>();
        for (int heat = 1; heat <= 20; heat++) {
            for (int reach = 1; reach <= 9; reach++) {
                boolean fine = true;
                for (int i = 0; i < n; i++) {
                    State s = new State();
                    s.heat = heat;
                    s.reach = reach;
                    Person p = new Person();
                    p.meant = (int) get(row, 3 * i);
                    p.whom = new Person();
                    p.whom.place = (int) get(row, 3 * i + 1);
                    fine &= s.warm(p) == get(row, 3 * i + 2);
                }
                if (fine) {
                    found.add(new int[] {heat, reach});
                }
            }
        }
        return found;
    }

    public int laws(int tray, int n) {
        return number(() -> couples(tray, n).size());
    }

    public int lawOf(int tray, int n, int what) {
        return number(() -> {
            between(what, 0, 1);
            List<int[]> found = couples(tray, n);
            unless(!found.isEmpty(), 6);
            return found.get(0)[what];
        });
    }

    private BigInteger errorOf(int n, int k, int what) {
        BigInteger sum = BigInteger.ZERO;
        int warms = what == 0 ? now.odds : now.sham;
        for (int set = 0; set < 1 << n; set++) {
            int many = Integer.bitCount(set);
            if (what == 0 ? many < k : many >= k) {
                sum = sum.add(BigInteger.valueOf(warms).pow(many).multiply(BigInteger.valueOf(16 - warms).pow(n - many)));
            }
        }
        return sum;
    }

    public boolean error(int n, int k, int what) {
        return done(() -> {
            between(n, 0, 12);
            between(k, 0, 13);
            between(what, 0, 1);
            return tell(errorOf(n, k, what), BigInteger.valueOf(16).pow(n));
        });
    }

    public int cut(int n) {
        return number(() -> {
            between(n, 0, 12);
            int best = -1;
            BigInteger least = null;
            for (int k = 0; k <= 13; k++) {
                BigInteger both = errorOf(n, k, 0).add(errorOf(n, k, 1));
                if (least == null || both.compareTo(least) < 0) {
                    least = both;
                    best = k;
                }
            }
            return best;
        });
    }

    // ---- games

    private static int worth(State s, int turns, boolean butler) {
        if (turns == 0) {
            return Integer.bitCount(s.litSet());
        }
        int best = worth(s, turns - 1, !butler);
        for (int i = 0; i < s.people.size(); i++) {
            if (!butler || s.canDrink(s.people.get(i))) {
                int found = worth(moved(s, i, butler), turns - 1, !butler);
                best = butler ? Math.max(best, found) : Math.min(best, found);
            }
        }
        return best;
    }

    private static State moved(State s, int i, boolean butler) {
        State t = s.copy();
        Person p = t.people.get(i);
        if (butler) {
            t.drink(p);
        } else {
            p.warmth = Math.max(0, p.warmth - t.cool);
        }
        return t;
    }

    public int game(int n) {
        return number(() -> {
            between(n, 0, 4);
            return worth(now, n, true);
        });
    }

    public int moveOf(int n) {
        return number(() -> {
            between(n, 1, 4);
            int best = worth(now, n, true);
            for (int i = 0; i < now.people.size(); i++) {
                if (now.canDrink(now.people.get(i)) && worth(moved(now, i, true), n - 1, false) == best) {
                    return i;
                }
            }
            throw new Wrong(6);
        });
    }

    public boolean share(int person) {
        return done(() -> {
            Person p = who(person);
            unless(now.all() > 0, 6);
            return tell(p.warmth, now.all());
        });
    }

    public int copyWarmth(int tray) {
        return number(() -> {
            Object row = trayOf(tray);
            unless(length(row) >= now.people.size(), 3);
            for (int i = 0; i < now.people.size(); i++) {
                set(row, i, now.people.get(i).warmth);
            }
            return now.people.size();
        });
    }

    // ---- TIMES

    /** One life: steps, then what lived() tells. */
    private static final class Life {
        final State s;
        int steps;
        final int[] counts = new int[5];
        long drawn;

        Life(State s, int seed) {
            this.s = s;
            drawn = seed;
            try {
                all(s.times);
            } catch (Halt h) {
                // It ends there.
            }
        }

        int draw(int n) {
            drawn = Math.floorMod(drawn * 3261 + 11491, 65536L);
            return (int) (drawn / 8 % n);
        }

        void all(List<Step> list) {
            for (Step step : list) {
                if (steps == 300) {
                    counts[4] = 1;
                    throw new Halt();
                }
                steps++;
                one(step);
            }
        }

        void one(Step step) {
            Person p = step.person < 0 ? null : s.people.get(step.person);
            switch (step.word) {
                case "drink" -> drink(p);
                case "night" -> nights(step.number);
                case "evening" -> {
                    if (s.night == 9999) {
                        counts[0]++;
                    } else {
                        s.evening(null);
                        counts[1]++;
                        counts[3]++;
                    }
                }
                case "fill" -> {
                    counts[0] += p.glasses == step.number ? 1 : 0;
                    p.glasses = step.number;
                }
                case "any" -> {
                    if (s.people.isEmpty()) {
                        counts[0]++;
                    } else {
                        int who = draw(s.people.size());
                        int luck = draw(16);
                        if (luck < s.odds) {
                            drink(s.people.get(who));
                        } else {
                            nights(1);
                        }
                    }
                }
                case "when" -> {
                    if (holds(step, p)) {
                        all(step.inner);
                    }
                }
                case "loop" -> {
                    for (int i = 0; i < step.number; i++) {
                        all(step.inner);
                    }
                }
                default -> throw new Halt();
            }
        }

        void drink(Person p) {
            if (s.canDrink(p)) {
                s.drink(p);
                counts[2]++;
            } else {
                counts[0]++;
            }
        }

        void nights(int n) {
            if (s.night + n > 9999) {
                counts[0]++;
                return;
            }
            for (int i = 0; i < n; i++) {
                s.nightGoesBy();
            }
            counts[1] += n;
        }

        boolean holds(Step step, Person p) {
            if (step.test.equals("lit")) {
                return s.lit(p);
            }
            int much = step.test.equals("warm") ? p.warmth : p.glasses;
            return step.sign == '<' ? much < step.number : step.sign == '>' ? much > step.number : much == step.number;
        }
    }

    public int live(int seed) {
        return number(() -> {
            between(seed, 0, 9999);
            unless(now.times != null, 6);
            Life life = new Life(now, seed);
            livedCounts = life.counts;
            return life.steps;
        });
    }

    public int lived(int what) {
        return number(() -> {
            between(what, 0, 4);
            unless(livedCounts != null, 6);
            return livedCounts[what];
        });
    }

    public boolean mean(int seed, int many) {
        return done(() -> {
            between(seed, 0, 9999);
            between(many, 1, 20);
            between(seed + many - 1, 0, 9999);
            unless(now.times != null, 6);
            long sum = 0;
            for (int i = 0; i < many; i++) {
                sum += new Life(now.copy(), seed + i).s.all();
            }
            return tell(sum, many);
        });
    }

    // ---- MARKS

    public int mark() {
        return number(() -> {
            unless(marks.size() < 3, 4);
            marks.add(now.copy());
            return marks.size();
        });
    }

    public int undo() {
        return number(() -> {
            unless(!marks.isEmpty(), 6);
            now = marks.remove(marks.size() - 1);
            return marks.size();
        });
    }
}
