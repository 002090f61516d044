/** Toasts to whom it may concern: the calls of the document, over the classes below. */
public final class ToastMap {
    public static final int NONE = -1;

    private static final int FINE = 0;
    private static final int BAD_NUMBER = 1;
    private static final int TRAY_MISSING = 2;
    private static final int NO_PLACE = 3;
    private static final int TOO_MANY = 4;
    private static final int BAD_IN_TRAY = 5;
    private static final int NONE_SUCH = 6;
    private static final int CANNOT_BE = 7;
    private static final int UNLIKE_SORTS = 8;
    private static final int FAULTY = 9;

    private static final int MOST_PEOPLE = 7;
    private static final int MOST_GLASSES = 9;
    private static final int MOST_MEANT = 9;
    private static final int MOST_WARMTH = 99;
    private static final int LAST_PLACE = 59;
    private static final int LAST_NIGHT = 9999;
    private static final int LAST_SEED = 9999;
    private static final int MOST_AHEAD = 60;
    private static final int MOST_EVENINGS = 200;
    private static final int MOST_MARKS = 3;
    private static final int TAPE_BYTES = 900;
    private static final int TIMES_BYTES = 300;

    // The six rules bear the numbers by which told(), rule() and WORDS name them.
    private static final int ODDS = 1;
    private static final int SHAM = 2;
    private static final int GLOW = 3;
    private static final int COOL = 4;
    private static final int HEAT = 5;
    private static final int REACH = 6;
    private static final int RULES = 7;
    private static final int[] LEAST_RULE = {0, 0, 0, 1, 0, 1, 1};
    private static final int[] MOST_RULE = {0, 16, 16, 99, 30, 20, 9};
    private static final int[] USUAL_RULE = {0, 12, 4, 20, 5, 10, 1};

    // The WORDS that are no NAMES, by their order in WORDS; 0 is any other WORD.
    private static final String WORDS =
            "odds sham glow cool heat reach person at meant warm glasses toast to drink night evening fill any when lit loop end stop ";
    private static final int WORD_COUNT = 24;
    private static final int FREE_WORD = 0;
    private static final int PERSON = 7;
    private static final int AT = 8;
    private static final int MEANT = 9;
    private static final int WARM = 10;
    private static final int GLASSES = 11;
    private static final int TOAST = 12;
    private static final int TO = 13;
    private static final int DRINK = 14;
    private static final int NIGHT = 15;
    private static final int EVENING = 16;
    private static final int FILL = 17;
    private static final int ANY = 18;
    private static final int WHEN = 19;
    private static final int LIT = 20;
    private static final int LOOP = 21;
    private static final int END = 22;
    private static final int STOP = 23;

    private int status = FINE;
    private long fractionTop = 0;
    private long fractionBottom = 1;
    private boolean everLived = false;
    private final Trays trays = new Trays();
    private final Tape tape = new Tape();
    private final Company now = new Company();
    private final Company spare = new Company();
    private final Times steps = new Times();
    private final MapReader mapReader = new MapReader(tape);
    private final TimesReader timesReader = new TimesReader(tape);
    private final Marks marks = new Marks();
    private final Living latest = new Living();
    private final Living trial = new Living();
    private final Ways ways = new Ways();
    private final Game play = new Game();
    private final Glasses honest = new Glasses();
    private final Glasses shams = new Glasses();
    private final long[] states = new long[MOST_EVENINGS + 1];

    public ToastMap() {
    }

    public int status() {
        return status;
    }

    public long top() {
        return fractionTop;
    }

    public long bottom() {
        return fractionBottom;
    }

    // ---- TRAYS

    public boolean tray(int tray, int sort, int many) {
        if (!trays.isTray(tray) || !trays.isSort(sort) || !within(many, 0, Trays.PLACES)) {
            return deny(BAD_NUMBER);
        }
        trays.lay(tray, sort, many);
        return grant();
    }

    public boolean write(int tray, int place, long v) {
        int why = placeStatus(tray, place);
        if (why != FINE) {
            return deny(why);
        }
        trays.put(tray, place, v);
        return grant();
    }

    public long read(int tray, int place) {
        int why = placeStatus(tray, place);
        if (why != FINE) {
            return refuse(why);
        }
        status = FINE;
        return trays.at(tray, place);
    }

    public boolean pour(int from, int place, int to, int at, int many) {
        int why = pourStatus(from, place, to, at, many);
        if (why != FINE) {
            return deny(why);
        }
        trays.copy(from, place, to, at, many);
        return grant();
    }

    private int placeStatus(int tray, int place) {
        if (!trays.isTray(tray)) {
            return BAD_NUMBER;
        }
        if (trays.isMissing(tray)) {
            return TRAY_MISSING;
        }
        return within(place, 0, trays.length(tray) - 1) ? FINE : NO_PLACE;
    }

    private int pourStatus(int from, int place, int to, int at, int many) {
        if (!trays.isTray(from) || !trays.isTray(to) || place < 0 || at < 0 || many < 0) {
            return BAD_NUMBER;
        }
        if (trays.isMissing(from) || trays.isMissing(to)) {
            return TRAY_MISSING;
        }
        if (trays.sort(from) != trays.sort(to)) {
            return UNLIKE_SORTS;
        }
        return trays.has(from, place, many) && trays.has(to, at, many) ? FINE : NO_PLACE;
    }

    // ---- texts

    public int feed(int a, int b, int c, int d, int e) {
        if (!tape.hasRoom(20)) {
            return NONE;
        }
        tape.append(a);
        tape.append(b);
        tape.append(c);
        tape.append(d);
        tape.append(e);
        return tape.length();
    }

    public int map(int n) {
        if (!within(n, 0, tape.length())) {
            return refuse(BAD_NUMBER);
        }
        boolean taken = mapReader.readMap(n);
        tape.empty();
        if (!taken) {
            return refuse(FAULTY);
        }
        now.takeFrom(mapReader.draft());
        steps.forget();
        return answer(now.count);
    }

    public int times(int n) {
        if (!within(n, 0, tape.length()) || n > TIMES_BYTES) {
            return refuse(BAD_NUMBER);
        }
        boolean taken = timesReader.readTimes(n, now);
        tape.empty();
        if (!taken) {
            return refuse(FAULTY);
        }
        steps.takeFrom(timesReader.draft());
        return answer(steps.stepCount);
    }

    public int fault(int what) {
        if (what == 0) {
            return tape.faultKind();
        }
        return what == 1 ? tape.faultPlace() : NONE;
    }

    public int told(int what) {
        if (what >= ODDS && what <= REACH) {
            return answer(now.rules[what]);
        }
        switch (what) {
            case 0:
                return answer(now.count);
            case 7:
                return answer(now.night);
            case 8:
                return answer(now.litSet());
            case 9:
                return answer(now.toastingSet());
            case 10:
                return answer(now.allWarmth());
            case 11:
                return answer(now.allGlasses());
            default:
                return refuse(BAD_NUMBER);
        }
    }

    public int person(int person, int what) {
        if (!now.has(person) || !within(what, 0, 6)) {
            return refuse(BAD_NUMBER);
        }
        boolean asksWhom = what == 4 || what == 5;
        if (asksWhom && !now.hasWhom(person)) {
            return refuse(NONE_SUCH);
        }
        switch (what) {
            case 0:
                return answer(now.place[person]);
            case 1:
                return answer(now.meant[person]);
            case 2:
                return answer(now.warmth[person]);
            case 3:
                return answer(now.glasses[person]);
            case 4:
                return answer(now.whom[person]);
            case 5:
                return answer(now.warmOf(person));
            default:
                return answer(now.warmersOf(person));
        }
    }

    public int far(int person, int other) {
        if (!now.has(person) || !now.has(other)) {
            return refuse(BAD_NUMBER);
        }
        return answer(now.apart(person, other));
    }

    // ---- what is done

    public int drink(int person) {
        if (!now.has(person)) {
            return refuse(BAD_NUMBER);
        }
        if (!now.canDrink(person)) {
            return refuse(CANNOT_BE);
        }
        return answer(now.letDrink(person));
    }

    public int night(int nights) {
        if (!within(nights, 1, 99)) {
            return refuse(BAD_NUMBER);
        }
        if (!now.hasNights(nights)) {
            return refuse(TOO_MANY);
        }
        now.passNights(nights);
        return answer(now.litSet());
    }

    public int evening() {
        if (!now.hasNights(1)) {
            return refuse(TOO_MANY);
        }
        return answer(now.passEvening(NONE));
    }

    public int fill(int person, int glasses) {
        if (!now.has(person) || !within(glasses, 0, MOST_GLASSES)) {
            return refuse(BAD_NUMBER);
        }
        int old = now.glasses[person];
        now.glasses[person] = glasses;
        return answer(old);
    }

    public int means(int person, int meant) {
        if (!now.has(person) || !within(meant, 0, MOST_MEANT)) {
            return refuse(BAD_NUMBER);
        }
        int old = now.meant[person];
        now.meant[person] = meant;
        return answer(old);
    }

    public int move(int person, int place) {
        if (!now.has(person) || !within(place, 0, LAST_PLACE)) {
            return refuse(BAD_NUMBER);
        }
        int old = now.place[person];
        now.place[person] = place;
        return answer(old);
    }

    public int aim(int person, int other) {
        if (!isCouple(person, other)) {
            return refuse(BAD_NUMBER);
        }
        int old = now.whom[person];
        if (old == other) {
            return refuse(CANNOT_BE);
        }
        now.whom[person] = other;
        return answer(old == NONE ? now.count : old);
    }

    public int come(int place) {
        if (!within(place, 0, LAST_PLACE)) {
            return refuse(BAD_NUMBER);
        }
        if (now.isFull()) {
            return refuse(TOO_MANY);
        }
        return answer(now.add(place, Tape.NO_LETTERS));
    }

    public boolean rule(int what, int much) {
        if (!within(what, ODDS, REACH) || !within(much, LEAST_RULE[what], MOST_RULE[what])) {
            return deny(BAD_NUMBER);
        }
        now.rules[what] = much;
        return grant();
    }

    // ---- ahead

    public int warmIn(int person, int nights) {
        if (!now.has(person) || !within(nights, 0, MOST_AHEAD)) {
            return refuse(BAD_NUMBER);
        }
        return answer(now.warmthIn(person, nights));
    }

    public int darkIn(int person) {
        if (!now.has(person)) {
            return refuse(BAD_NUMBER);
        }
        for (int nights = 0; nights <= 99; nights++) {
            if (now.warmthIn(person, nights) < now.rules[GLOW]) {
                return answer(nights);
            }
        }
        return refuse(NONE_SUCH);
    }

    public int eveningIn(int person, int evenings) {
        if (!now.has(person) || !within(evenings, 0, MOST_AHEAD)) {
            return refuse(BAD_NUMBER);
        }
        lookAhead(evenings);
        return answer(spare.warmth[person]);
    }

    public int litIn(int evenings) {
        if (!within(evenings, 0, MOST_AHEAD)) {
            return refuse(BAD_NUMBER);
        }
        lookAhead(evenings);
        return answer(spare.litSet());
    }

    public int settles() {
        int period = findPeriod();
        return period == NONE ? refuse(NONE_SUCH) : answer(firstSettled(period));
    }

    public int period() {
        int period = findPeriod();
        return period == NONE ? refuse(NONE_SUCH) : answer(period);
    }

    private void lookAhead(int evenings) {
        spare.takeFrom(now);
        for (int i = 0; i < evenings; i++) {
            spare.passEvening(NONE);
        }
    }

    // An EVENING depends on WARMTH alone, so whatever comes again by EVENING 200
    // goes round there: the latest like that one is a PERIOD ahead of it.
    private int findPeriod() {
        spare.takeFrom(now);
        states[0] = spare.warmthAsOne();
        for (int i = 1; i <= MOST_EVENINGS; i++) {
            spare.passEvening(NONE);
            states[i] = spare.warmthAsOne();
        }
        for (int i = MOST_EVENINGS - 1; i >= 0; i--) {
            if (states[i] == states[MOST_EVENINGS]) {
                return MOST_EVENINGS - i;
            }
        }
        return NONE;
    }

    private int firstSettled(int period) {
        int k = 0;
        while (k + period < MOST_EVENINGS && states[k] != states[k + period]) {
            k++;
        }
        return k;
    }

    // ---- chains

    public int chain(int person) {
        if (!now.has(person)) {
            return refuse(BAD_NUMBER);
        }
        return answer(now.chainLength(person));
    }

    public int chainAt(int person, int k) {
        if (!now.has(person) || k < 0) {
            return refuse(BAD_NUMBER);
        }
        if (k >= now.chainLength(person)) {
            return refuse(NONE_SUCH);
        }
        return answer(now.alongChain(person, k));
    }

    public int rings() {
        int many = 0;
        for (int p = 0; p < now.count; p++) {
            if (now.leadsRing(p)) {
                many++;
            }
        }
        return answer(many);
    }

    public int inRings() {
        int set = 0;
        for (int p = 0; p < now.count; p++) {
            if (now.isInRing(p)) {
                set |= 1 << p;
            }
        }
        return answer(set);
    }

    // ---- who can be lit

    public int needs(int person) {
        if (!now.has(person)) {
            return refuse(BAD_NUMBER);
        }
        int need = now.drinksTo(person);
        return need == NONE ? refuse(NONE_SUCH) : answer(need);
    }

    public int most(int drinks) {
        if (!within(drinks, 0, 20)) {
            return refuse(BAD_NUMBER);
        }
        return answer(Integer.bitCount(now.mostLit(drinks)));
    }

    public int mostSet(int drinks) {
        if (!within(drinks, 0, 20)) {
            return refuse(BAD_NUMBER);
        }
        return answer(now.mostLit(drinks));
    }

    public int misses(int person) {
        if (!now.has(person)) {
            return refuse(BAD_NUMBER);
        }
        lookAhead(1);
        int with = spare.litSet();
        spare.takeFrom(now);
        spare.passEvening(person);
        return answer(with & ~spare.litSet());
    }

    // ---- who warms whom

    public int fits(int tray, int n) {
        int why = waysStatus(tray, n);
        if (why != FINE) {
            return refuse(why);
        }
        findWays(tray, n);
        return answer(ways.all());
    }

    public int firstOf(int tray, int n, int person) {
        int why = now.has(person) ? waysStatus(tray, n) : BAD_NUMBER;
        if (why != FINE) {
            return refuse(why);
        }
        findWays(tray, n);
        return ways.all() == 0 ? refuse(NONE_SUCH) : answer(ways.firstWhom(person));
    }

    public boolean oddsThat(int tray, int n, int person, int other) {
        int why = isCouple(person, other) ? waysStatus(tray, n) : BAD_NUMBER;
        if (why != FINE) {
            return deny(why);
        }
        findWays(tray, n);
        if (ways.all() == 0) {
            return deny(NONE_SUCH);
        }
        return tell(ways.through(person, other), ways.all());
    }

    public int ask(int tray, int n) {
        int why = waysStatus(tray, n);
        if (why != FINE) {
            return refuse(why);
        }
        findWays(tray, n);
        return ways.all() < 2 ? refuse(NONE_SUCH) : answer(ways.bestAsked());
    }

    private int waysStatus(int tray, int n) {
        int why = rowsStatus(tray, n, 10, 2);
        if (why != FINE) {
            return why;
        }
        int sets = 1 << now.count;
        for (int i = 0; i < 2 * n; i++) {
            long set = trays.at(tray, i);
            if (set < 0 || set >= sets) {
                return BAD_IN_TRAY;
            }
        }
        return FINE;
    }

    private void findWays(int tray, int n) {
        ways.begin(now.count);
        for (int i = 0; i < n; i++) {
            ways.seen((int) trays.at(tray, 2 * i), (int) trays.at(tray, 2 * i + 1));
        }
        ways.countAll();
    }

    // So many rows of such a width at the beginning of a TRAY.
    private int rowsStatus(int tray, int n, int mostRows, int width) {
        if (!trays.isTray(tray) || !within(n, 0, mostRows)) {
            return BAD_NUMBER;
        }
        if (trays.isMissing(tray)) {
            return TRAY_MISSING;
        }
        return n * width > trays.length(tray) ? NO_PLACE : FINE;
    }

    // ---- by which law, tests

    public int laws(int tray, int n) {
        int why = lawStatus(tray, n);
        if (why != FINE) {
            return refuse(why);
        }
        int many = 0;
        for (int heat = 1; heat <= MOST_RULE[HEAT]; heat++) {
            for (int reach = 1; reach <= MOST_RULE[REACH]; reach++) {
                if (isLaw(tray, n, heat, reach)) {
                    many++;
                }
            }
        }
        return answer(many);
    }

    public int lawOf(int tray, int n, int what) {
        int why = within(what, 0, 1) ? lawStatus(tray, n) : BAD_NUMBER;
        if (why != FINE) {
            return refuse(why);
        }
        for (int heat = 1; heat <= MOST_RULE[HEAT]; heat++) {
            for (int reach = 1; reach <= MOST_RULE[REACH]; reach++) {
                if (isLaw(tray, n, heat, reach)) {
                    return answer(what == 0 ? heat : reach);
                }
            }
        }
        return refuse(NONE_SUCH);
    }

    public boolean error(int n, int k, int what) {
        if (!within(n, 0, Glasses.MOST) || !within(k, 0, Glasses.MOST + 1) || !within(what, 0, 1)) {
            return deny(BAD_NUMBER);
        }
        tasteBoth(n);
        return tell(what == 0 ? honest.below(k) : shams.from(k), honest.all());
    }

    public int cut(int n) {
        if (!within(n, 0, Glasses.MOST)) {
            return refuse(BAD_NUMBER);
        }
        tasteBoth(n);
        int best = 0;
        long least = honest.below(0) + shams.from(0);
        for (int k = 1; k <= Glasses.MOST + 1; k++) {
            long both = honest.below(k) + shams.from(k);
            if (both < least) {
                least = both;
                best = k;
            }
        }
        return answer(best);
    }

    private int lawStatus(int tray, int n) {
        int why = rowsStatus(tray, n, 15, 3);
        if (why != FINE) {
            return why;
        }
        for (int i = 0; i < n; i++) {
            long meant = trays.at(tray, 3 * i);
            long far = trays.at(tray, 3 * i + 1);
            long warm = trays.at(tray, 3 * i + 2);
            if (meant < 0 || meant > MOST_MEANT || far < 0 || far > LAST_PLACE || warm < 0 || warm > 200) {
                return BAD_IN_TRAY;
            }
        }
        return FINE;
    }

    private boolean isLaw(int tray, int n, int heat, int reach) {
        for (int i = 0; i < n; i++) {
            int meant = (int) trays.at(tray, 3 * i);
            int far = (int) trays.at(tray, 3 * i + 1);
            if (warmBy(heat, meant, far, reach) != trays.at(tray, 3 * i + 2)) {
                return false;
            }
        }
        return true;
    }

    private void tasteBoth(int n) {
        honest.taste(n, now.rules[ODDS]);
        shams.taste(n, now.rules[SHAM]);
    }

    // ---- games

    public int game(int n) {
        if (!within(n, 0, Game.MOST_TURNS)) {
            return refuse(BAD_NUMBER);
        }
        play.playOut(now, n);
        return answer(play.worth());
    }

    public int moveOf(int n) {
        if (!within(n, 1, Game.MOST_TURNS)) {
            return refuse(BAD_NUMBER);
        }
        play.playOut(now, n);
        return play.firstMove() == NONE ? refuse(NONE_SUCH) : answer(play.firstMove());
    }

    public boolean share(int person) {
        if (!now.has(person)) {
            return deny(BAD_NUMBER);
        }
        int all = now.allWarmth();
        return all == 0 ? deny(NONE_SUCH) : tell(now.warmth[person], all);
    }

    public int copyWarmth(int tray) {
        if (!trays.isTray(tray)) {
            return refuse(BAD_NUMBER);
        }
        if (trays.isMissing(tray)) {
            return refuse(TRAY_MISSING);
        }
        if (!trays.has(tray, 0, now.count)) {
            return refuse(NO_PLACE);
        }
        for (int p = 0; p < now.count; p++) {
            trays.put(tray, p, now.warmth[p]);
        }
        return answer(now.count);
    }

    // ---- TIMES

    public int live(int seed) {
        if (!within(seed, 0, LAST_SEED)) {
            return refuse(BAD_NUMBER);
        }
        if (!steps.isThere) {
            return refuse(NONE_SUCH);
        }
        latest.runThrough(now, steps, seed);
        everLived = true;
        return answer(latest.stepsDone);
    }

    public int lived(int what) {
        if (!within(what, 0, 4)) {
            return refuse(BAD_NUMBER);
        }
        if (!everLived) {
            return refuse(NONE_SUCH);
        }
        switch (what) {
            case 0:
                return answer(latest.missed);
            case 1:
                return answer(latest.nights);
            case 2:
                return answer(latest.drinks);
            case 3:
                return answer(latest.evenings);
            default:
                return answer(latest.wasCut ? 1 : 0);
        }
    }

    public boolean mean(int seed, int many) {
        if (!within(seed, 0, LAST_SEED) || !within(many, 1, 20) || seed + many - 1 > LAST_SEED) {
            return deny(BAD_NUMBER);
        }
        if (!steps.isThere) {
            return deny(NONE_SUCH);
        }
        int sum = 0;
        for (int i = 0; i < many; i++) {
            spare.takeFrom(now);
            trial.runThrough(spare, steps, seed + i);
            sum += spare.allWarmth();
        }
        return tell(sum, many);
    }

    // ---- MARKS

    public int mark() {
        if (marks.isFull()) {
            return refuse(TOO_MANY);
        }
        return answer(marks.keep(now, steps));
    }

    public int undo() {
        if (marks.isEmpty()) {
            return refuse(NONE_SUCH);
        }
        return answer(marks.giveBack(now, steps));
    }

    // ---- what many calls share

    private int answer(int given) {
        status = FINE;
        return given;
    }

    private int refuse(int why) {
        status = why;
        return NONE;
    }

    private boolean grant() {
        status = FINE;
        return true;
    }

    private boolean deny(int why) {
        status = why;
        return false;
    }

    private boolean tell(long part, long whole) {
        long divisor = Math.max(1, commonDivisor(part, whole));
        fractionTop = part / divisor;
        fractionBottom = whole / divisor;
        return grant();
    }

    private static long commonDivisor(long part, long whole) {
        long a = whole;
        long b = part;
        // Two rounds at least halve what is left, so 200 are far more than a long needs.
        for (int i = 0; i < 200 && b != 0; i++) {
            long rest = a % b;
            a = b;
            b = rest;
        }
        return a;
    }

    private boolean isCouple(int person, int other) {
        return now.has(person) && now.has(other) && person != other;
    }

    private static boolean within(int number, int least, int most) {
        return number >= least && number <= most;
    }

    private static int warmBy(int heat, int meant, int far, int reach) {
        int warm = heat * meant - (reach > 0 ? far / reach : far);
        return warm > 0 ? warm : 0;
    }

    /** TRAYS 0 to 3; all numbers are kept as longs, cut when they are put. */
    private static final class Trays {
        static final int PLACES = 60;
        private static final int MANY = 4;
        private final long[][] rows = new long[MANY][PLACES];
        private final int[] sorts = new int[MANY];
        private final int[] lengths = {NONE, NONE, NONE, NONE};

        boolean isTray(int tray) {
            return tray >= 0 && tray < MANY;
        }

        boolean isSort(int sort) {
            return sort >= 0 && sort <= 3;
        }

        boolean isMissing(int tray) {
            return lengths[tray] == NONE;
        }

        int length(int tray) {
            return lengths[tray];
        }

        int sort(int tray) {
            return sorts[tray];
        }

        // The sum is a long, since a place and a number may be the largest ints.
        boolean has(int tray, int place, int many) {
            return (long) place + many <= lengths[tray];
        }

        void lay(int tray, int sort, int many) {
            sorts[tray] = sort;
            lengths[tray] = many;
            for (int i = 0; i < many; i++) {
                rows[tray][i] = 0;
            }
        }

        long at(int tray, int place) {
            return rows[tray][place];
        }

        void put(int tray, int place, long v) {
            rows[tray][place] = cutTo(sorts[tray], v);
        }

        void copy(int from, int place, int to, int at, int many) {
            System.arraycopy(rows[from], place, rows[to], at, many);
        }

        private static long cutTo(int sort, long v) {
            switch (sort) {
                case 0:
                    return (byte) v;
                case 1:
                    return (short) v;
                case 2:
                    return (int) v;
                default:
                    return v;
            }
        }
    }

    /** The tape, the TOKENS of a text on it one by one, and the first FAULT along it. */
    private static final class Tape {
        static final long NO_LETTERS = 0;
        static final int FAULT_TOKEN = 1;
        static final int FAULT_ORDER = 2;
        static final int FAULT_NAME = 3;
        static final int FAULT_NUMBER = 4;
        static final int FAULT_TWICE = 5;
        static final int FAULT_MANY = 6;
        static final int FAULT_DEEP = 7;
        private static final int NAME_LETTERS = 8;
        private static final int NUMBER_DIGITS = 4;
        private static final int AT_END = 0;
        private static final int AT_WORD = 1;
        private static final int AT_NUMBER = 2;
        private static final int AT_SIGN = 3;
        private static final int AT_NOTHING = 4;

        private final byte[] bytes = new byte[TAPE_BYTES];
        private final long[] words = new long[WORD_COUNT];
        private int many = 0;
        private int textLength = 0;
        private int next = 0;
        private int kind = AT_END;
        private int start = 0;
        private int number = 0;
        private int sign = 0;
        // Which of WORDS the TOKEN is: FREE_WORD if it may be a NAME, NONE if neither.
        int word = NONE;
        // The letters of a WORD of at most 8, as one number.
        long letters = NO_LETTERS;
        private int faultKind = NONE;
        private int faultPlace = NONE;

        Tape() {
            int at = 1;
            long packed = NO_LETTERS;
            for (int i = 0; i < WORDS.length() && at < WORD_COUNT; i++) {
                char c = WORDS.charAt(i);
                if (c == ' ') {
                    words[at] = packed;
                    at++;
                    packed = NO_LETTERS;
                } else {
                    packed = withLetter(packed, c);
                }
            }
        }

        int length() {
            return many;
        }

        int faultKind() {
            return faultKind;
        }

        int faultPlace() {
            return faultPlace;
        }

        boolean hasRoom(int more) {
            return many + more <= TAPE_BYTES;
        }

        void append(int four) {
            for (int shift = 24; shift >= 0 && many < TAPE_BYTES; shift -= 8) {
                bytes[many] = (byte) (four >> shift);
                many++;
            }
        }

        void empty() {
            many = 0;
        }

        void begin(int n) {
            textLength = Math.min(n, many);
            next = 0;
            faultKind = 0;
            faultPlace = NONE;
            step();
        }

        boolean isAtEnd() {
            return kind == AT_END;
        }

        boolean isAtCompares() {
            return sign == '<' || sign == '>' || sign == '=';
        }

        int sign() {
            return sign;
        }

        int number() {
            return number;
        }

        // What is no TOKEN is that above all, whatever should have stood there.
        boolean object(int why) {
            faultKind = kind == AT_NOTHING ? FAULT_TOKEN : why;
            faultPlace = start;
            return false;
        }

        boolean passWord(int wanted) {
            if (word != wanted) {
                return object(FAULT_ORDER);
            }
            step();
            return true;
        }

        boolean passSemicolon() {
            if (sign != ';') {
                return object(FAULT_ORDER);
            }
            step();
            return true;
        }

        // The number itself stays to be asked for until the next TOKEN is come to.
        boolean isNumber(int least, int most) {
            if (kind != AT_NUMBER) {
                return object(FAULT_ORDER);
            }
            return number >= least && number <= most || object(FAULT_NUMBER);
        }

        // Which PERSON of a company the NAME is that must stand here.
        int whoIsNamed(Company company) {
            if (word != FREE_WORD) {
                object(FAULT_ORDER);
                return NONE;
            }
            int person = company.named(letters);
            if (person == NONE) {
                object(FAULT_NAME);
            }
            return person;
        }

        void step() {
            while (next < textLength && isBlank(bytes[next])) {
                next++;
            }
            start = next;
            word = NONE;
            sign = 0;
            if (next >= textLength) {
                kind = AT_END;
            } else if (isLetter(bytes[next])) {
                stepWord();
            } else if (isDigit(bytes[next])) {
                stepNumber();
            } else if (isSign(bytes[next])) {
                kind = AT_SIGN;
                sign = bytes[next];
                next++;
            } else {
                kind = AT_NOTHING;
            }
        }

        private void stepWord() {
            kind = AT_WORD;
            letters = NO_LETTERS;
            while (next < textLength && isLetter(bytes[next])) {
                if (next - start < NAME_LETTERS) {
                    letters = withLetter(letters, bytes[next]);
                }
                next++;
            }
            word = next - start > NAME_LETTERS ? NONE : wordOf(letters);
        }

        private void stepNumber() {
            number = 0;
            while (next < textLength && isDigit(bytes[next])) {
                if (next - start < NUMBER_DIGITS) {
                    number = number * 10 + (bytes[next] - '0');
                }
                next++;
            }
            kind = next - start > NUMBER_DIGITS ? AT_NOTHING : AT_NUMBER;
        }

        private int wordOf(long packed) {
            for (int i = 1; i < WORD_COUNT; i++) {
                if (words[i] == packed) {
                    return i;
                }
            }
            return FREE_WORD;
        }

        private static long withLetter(long packed, int letter) {
            return packed * 32 + (letter - 'a' + 1);
        }

        private static boolean isBlank(byte b) {
            return b == 10 || b == 32;
        }

        private static boolean isLetter(byte b) {
            return b >= 'a' && b <= 'z';
        }

        private static boolean isDigit(byte b) {
            return b >= '0' && b <= '9';
        }

        private static boolean isSign(byte b) {
            return b == ';' || b == '<' || b == '>' || b == '=';
        }
    }

    /** Reads a MAP to a draft, so that the old one stays if there is a FAULT. */
    private static final class MapReader {
        private final Tape tape;
        private final Company company = new Company();
        private int rulesTold = 0;

        MapReader(Tape tape) {
            this.tape = tape;
        }

        Company draft() {
            return company;
        }

        boolean readMap(int n) {
            company.clear();
            rulesTold = 0;
            tape.begin(n);
            for (int i = 0; i <= TAPE_BYTES && !tape.isAtEnd(); i++) {
                if (!readPart()) {
                    return false;
                }
            }
            return true;
        }

        private boolean readPart() {
            int word = tape.word;
            if (word >= ODDS && word <= REACH) {
                return readRule(word);
            }
            if (word == PERSON) {
                return readPerson();
            }
            return word == TOAST ? readToast() : tape.object(Tape.FAULT_ORDER);
        }

        private boolean readRule(int what) {
            if ((rulesTold & 1 << what) != 0) {
                return tape.object(Tape.FAULT_TWICE);
            }
            rulesTold |= 1 << what;
            tape.step();
            if (!tape.isNumber(LEAST_RULE[what], MOST_RULE[what])) {
                return false;
            }
            company.rules[what] = tape.number();
            tape.step();
            return tape.passSemicolon();
        }

        private boolean readPerson() {
            if (company.isFull()) {
                return tape.object(Tape.FAULT_MANY);
            }
            tape.step();
            if (tape.word != FREE_WORD) {
                return tape.object(Tape.FAULT_ORDER);
            }
            long name = tape.letters;
            if (company.named(name) != NONE) {
                return tape.object(Tape.FAULT_NAME);
            }
            tape.step();
            if (!tape.passWord(AT) || !tape.isNumber(0, LAST_PLACE)) {
                return false;
            }
            int person = company.add(tape.number(), name);
            tape.step();
            return readPerhaps(MEANT, company.meant, person, MOST_MEANT)
                    && readPerhaps(WARM, company.warmth, person, MOST_WARMTH)
                    && readPerhaps(GLASSES, company.glasses, person, MOST_GLASSES)
                    && tape.passSemicolon();
        }

        private boolean readPerhaps(int word, int[] row, int person, int most) {
            if (tape.word != word) {
                return true;
            }
            tape.step();
            if (!tape.isNumber(0, most)) {
                return false;
            }
            row[person] = tape.number();
            tape.step();
            return true;
        }

        private boolean readToast() {
            tape.step();
            int person = tape.whoIsNamed(company);
            if (person == NONE) {
                return false;
            }
            if (company.hasWhom(person)) {
                return tape.object(Tape.FAULT_TWICE);
            }
            tape.step();
            if (!tape.passWord(TO)) {
                return false;
            }
            int other = tape.whoIsNamed(company);
            if (other == NONE) {
                return false;
            }
            if (other == person) {
                return tape.object(Tape.FAULT_TWICE);
            }
            company.whom[person] = other;
            tape.step();
            return tape.passSemicolon();
        }
    }

    /** The STEPS of TIMES as rows, an end among them as one more. */
    private static final class Times {
        static final int MOST_STEPS = 30;
        private static final int ROWS = 2 * MOST_STEPS;
        final int[] words = new int[ROWS];
        final int[] people = new int[ROWS];
        final int[] tests = new int[ROWS];
        final int[] signs = new int[ROWS];
        final int[] numbers = new int[ROWS];
        // Of a when or a loop its end, of an end its when or loop.
        final int[] partners = new int[ROWS];
        int rowCount = 0;
        int stepCount = 0;
        boolean isThere = false;

        void forget() {
            rowCount = 0;
            stepCount = 0;
            isThere = false;
        }

        // An end has a when or a loop ahead of it, so there are never more than ROWS.
        int add(int word) {
            int row = Math.min(rowCount, ROWS - 1);
            words[row] = word;
            people[row] = NONE;
            tests[row] = NONE;
            signs[row] = 0;
            numbers[row] = 0;
            partners[row] = row;
            rowCount = row + 1;
            if (word != END) {
                stepCount++;
            }
            return row;
        }

        void takeFrom(Times other) {
            System.arraycopy(other.words, 0, words, 0, other.rowCount);
            System.arraycopy(other.people, 0, people, 0, other.rowCount);
            System.arraycopy(other.tests, 0, tests, 0, other.rowCount);
            System.arraycopy(other.signs, 0, signs, 0, other.rowCount);
            System.arraycopy(other.numbers, 0, numbers, 0, other.rowCount);
            System.arraycopy(other.partners, 0, partners, 0, other.rowCount);
            rowCount = other.rowCount;
            stepCount = other.stepCount;
            isThere = other.isThere;
        }
    }

    /** Reads TIMES to a draft, by the NAMES of a company. */
    private static final class TimesReader {
        private static final int DEEPEST = 3;
        private final Tape tape;
        private final Times times = new Times();
        private final int[] open = new int[DEEPEST];
        private int depth = 0;

        TimesReader(Tape tape) {
            this.tape = tape;
        }

        Times draft() {
            return times;
        }

        boolean readTimes(int n, Company company) {
            times.forget();
            depth = 0;
            tape.begin(n);
            for (int i = 0; i <= TIMES_BYTES && !tape.isAtEnd(); i++) {
                if (!readStep(company)) {
                    return false;
                }
            }
            times.isThere = true;
            return depth == 0 || tape.object(Tape.FAULT_ORDER);
        }

        private boolean readStep(Company company) {
            int word = tape.word;
            if (word == END) {
                return readEnd();
            }
            if (word < DRINK || word == LIT) {
                return tape.object(Tape.FAULT_ORDER);
            }
            if (times.stepCount >= Times.MOST_STEPS) {
                return tape.object(Tape.FAULT_MANY);
            }
            boolean opens = word == WHEN || word == LOOP;
            if (opens && depth >= DEEPEST) {
                return tape.object(Tape.FAULT_DEEP);
            }
            int row = times.add(word);
            if (opens) {
                open[depth] = row;
                depth++;
            }
            tape.step();
            boolean isWhole = true;
            switch (word) {
                case DRINK:
                    isWhole = readWho(row, company);
                    break;
                case NIGHT:
                    isWhole = readAmount(row, 1, 20);
                    break;
                case FILL:
                    isWhole = readWho(row, company) && readAmount(row, 0, MOST_GLASSES);
                    break;
                case WHEN:
                    isWhole = readTest(row, company);
                    break;
                case LOOP:
                    isWhole = readAmount(row, 1, 99);
                    break;
                default:
                    break;
            }
            return isWhole && tape.passSemicolon();
        }

        private boolean readEnd() {
            if (depth < 1) {
                return tape.object(Tape.FAULT_ORDER);
            }
            tape.step();
            depth--;
            int begin = open[depth];
            int row = times.add(END);
            times.partners[row] = begin;
            times.partners[begin] = row;
            return tape.passSemicolon();
        }

        private boolean readTest(int row, Company company) {
            int test = tape.word;
            if (test != LIT && test != WARM && test != GLASSES) {
                return tape.object(Tape.FAULT_ORDER);
            }
            times.tests[row] = test;
            tape.step();
            if (!readWho(row, company)) {
                return false;
            }
            return test == LIT
                    || readCompares(row) && readAmount(row, 0, test == WARM ? MOST_WARMTH : MOST_GLASSES);
        }

        private boolean readWho(int row, Company company) {
            int person = tape.whoIsNamed(company);
            if (person == NONE) {
                return false;
            }
            times.people[row] = person;
            tape.step();
            return true;
        }

        private boolean readCompares(int row) {
            if (!tape.isAtCompares()) {
                return tape.object(Tape.FAULT_ORDER);
            }
            times.signs[row] = tape.sign();
            tape.step();
            return true;
        }

        private boolean readAmount(int row, int least, int most) {
            if (!tape.isNumber(least, most)) {
                return false;
            }
            times.numbers[row] = tape.number();
            tape.step();
            return true;
        }
    }

    /** A MAP with all that became of it. */
    private static final class Company {
        int count = 0;
        int night = 0;
        final int[] rules = new int[RULES];
        final int[] place = new int[MOST_PEOPLE];
        final int[] meant = new int[MOST_PEOPLE];
        final int[] warmth = new int[MOST_PEOPLE];
        final int[] glasses = new int[MOST_PEOPLE];
        final int[] whom = new int[MOST_PEOPLE];
        final long[] names = new long[MOST_PEOPLE];
        // What comes to each on an EVENING, or what each needs: never both at once.
        private final int[] sums = new int[MOST_PEOPLE];

        Company() {
            System.arraycopy(USUAL_RULE, 0, rules, 0, RULES);
        }

        void clear() {
            count = 0;
            night = 0;
            System.arraycopy(USUAL_RULE, 0, rules, 0, RULES);
        }

        void takeFrom(Company other) {
            count = other.count;
            night = other.night;
            System.arraycopy(other.rules, 0, rules, 0, RULES);
            System.arraycopy(other.place, 0, place, 0, count);
            System.arraycopy(other.meant, 0, meant, 0, count);
            System.arraycopy(other.warmth, 0, warmth, 0, count);
            System.arraycopy(other.glasses, 0, glasses, 0, count);
            System.arraycopy(other.whom, 0, whom, 0, count);
            System.arraycopy(other.names, 0, names, 0, count);
        }

        boolean has(int person) {
            return person >= 0 && person < count;
        }

        boolean isFull() {
            return count >= MOST_PEOPLE;
        }

        int add(int where, long name) {
            int person = Math.min(count, MOST_PEOPLE - 1);
            place[person] = where;
            meant[person] = 1;
            warmth[person] = 0;
            glasses[person] = 2;
            whom[person] = NONE;
            names[person] = name;
            count = person + 1;
            return person;
        }

        int named(long name) {
            for (int p = 0; p < count; p++) {
                if (names[p] == name) {
                    return p;
                }
            }
            return NONE;
        }

        boolean hasWhom(int person) {
            return whom[person] != NONE;
        }

        int apart(int person, int other) {
            return Math.abs(place[person] - place[other]);
        }

        int warmOf(int person) {
            int other = whom[person];
            if (!has(other)) {
                return 0;
            }
            return warmBy(rules[HEAT], meant[person], apart(person, other), rules[REACH]);
        }

        boolean isLit(int person) {
            return warmth[person] >= rules[GLOW];
        }

        int litSet() {
            int set = 0;
            for (int p = 0; p < count; p++) {
                if (isLit(p)) {
                    set |= 1 << p;
                }
            }
            return set;
        }

        int toastingSet() {
            int set = 0;
            for (int p = 0; p < count; p++) {
                if (hasWhom(p)) {
                    set |= 1 << p;
                }
            }
            return set;
        }

        int warmersOf(int person) {
            int set = 0;
            for (int p = 0; p < count; p++) {
                if (whom[p] == person) {
                    set |= 1 << p;
                }
            }
            return set;
        }

        int allWarmth() {
            int sum = 0;
            for (int p = 0; p < count; p++) {
                sum += warmth[p];
            }
            return sum;
        }

        int allGlasses() {
            int sum = 0;
            for (int p = 0; p < count; p++) {
                sum += glasses[p];
            }
            return sum;
        }

        // 7 bits hold a WARMTH, so that a long holds that of all PEOPLE.
        long warmthAsOne() {
            long one = 0;
            for (int p = 0; p < count; p++) {
                one = one << 7 | warmth[p];
            }
            return one;
        }

        boolean canDrink(int person) {
            return has(whom[person]) && glasses[person] > 0;
        }

        int letDrink(int person) {
            int other = whom[person];
            int warm = warmBy(rules[HEAT], meant[person], apart(person, other), rules[REACH]);
            glasses[person]--;
            warmth[other] = Math.min(MOST_WARMTH, warmth[other] + warm);
            return warmth[other];
        }

        boolean hasNights(int nights) {
            return night + nights <= LAST_NIGHT;
        }

        int warmthIn(int person, int nights) {
            return Math.max(0, warmth[person] - nights * rules[COOL]);
        }

        void passNights(int nights) {
            night += nights;
            for (int p = 0; p < count; p++) {
                warmth[p] = warmthIn(p, nights);
            }
        }

        // An EVENING on which one does not warm, or nobody stays away (NONE).
        int passEvening(int away) {
            for (int p = 0; p < count; p++) {
                sums[p] = 0;
            }
            int warming = 0;
            for (int p = 0; p < count; p++) {
                if (p != away && isLit(p) && has(whom[p])) {
                    sums[whom[p]] += warmOf(p);
                    warming |= 1 << p;
                }
            }
            for (int p = 0; p < count; p++) {
                warmth[p] = Math.min(MOST_WARMTH, warmth[p] + sums[p]);
            }
            passNights(1);
            return warming;
        }

        int chainLength(int person) {
            int seen = 0;
            int at = person;
            for (int i = 0; i < count && has(at) && (seen & 1 << at) == 0; i++) {
                seen |= 1 << at;
                at = whom[at];
            }
            return Integer.bitCount(seen);
        }

        int alongChain(int person, int k) {
            int at = person;
            for (int i = 0; i < k && i < count && has(whom[at]); i++) {
                at = whom[at];
            }
            return at;
        }

        boolean isInRing(int person) {
            int at = whom[person];
            for (int i = 0; i < count && has(at) && at != person; i++) {
                at = whom[at];
            }
            return at == person;
        }

        // The least of a RING stands for it, so that each is counted once.
        boolean leadsRing(int person) {
            int at = whom[person];
            for (int i = 0; i < count && has(at) && at > person; i++) {
                at = whom[at];
            }
            return at == person && isInRing(person);
        }

        // The fewest DRINKS come by those first who warm the most.
        int drinksTo(int person) {
            int cold = rules[GLOW] - warmth[person];
            int left = warmersOf(person);
            int many = 0;
            for (int i = 0; i < MOST_PEOPLE && cold > 0; i++) {
                int best = warmestOf(left);
                if (best == NONE) {
                    return NONE;
                }
                left &= ~(1 << best);
                int warm = Math.max(1, warmOf(best));
                int used = Math.min(glasses[best], (cold + warm - 1) / warm);
                many += used;
                cold -= used * warm;
            }
            return cold > 0 ? NONE : many;
        }

        private int warmestOf(int set) {
            int best = NONE;
            int most = 0;
            for (int p = 0; p < count; p++) {
                if ((set & 1 << p) != 0 && warmOf(p) > most) {
                    best = p;
                    most = warmOf(p);
                }
            }
            return best;
        }

        // Nobody's GLASSES serve two, so a set needs what its PEOPLE need one by one.
        int mostLit(int drinks) {
            for (int p = 0; p < count; p++) {
                sums[p] = drinksTo(p);
            }
            int best = 0;
            for (int set = 1; set < 1 << count; set++) {
                if (Integer.bitCount(set) > Integer.bitCount(best) && canAllBeLit(set, drinks)) {
                    best = set;
                }
            }
            return best;
        }

        private boolean canAllBeLit(int set, int drinks) {
            int sum = 0;
            for (int p = 0; p < count; p++) {
                if ((set & 1 << p) != 0) {
                    if (sums[p] == NONE) {
                        return false;
                    }
                    sum += sums[p];
                }
            }
            return sum <= drinks;
        }
    }

    /** At most 3 MARKS, the latest last. */
    private static final class Marks {
        private final Company[] companies = new Company[MOST_MARKS];
        private final Times[] times = new Times[MOST_MARKS];
        private int count = 0;

        Marks() {
            for (int i = 0; i < MOST_MARKS; i++) {
                companies[i] = new Company();
                times[i] = new Times();
            }
        }

        boolean isFull() {
            return count >= MOST_MARKS;
        }

        boolean isEmpty() {
            return count < 1;
        }

        int keep(Company company, Times steps) {
            companies[count].takeFrom(company);
            times[count].takeFrom(steps);
            count++;
            return count;
        }

        int giveBack(Company company, Times steps) {
            count--;
            company.takeFrom(companies[count]);
            steps.takeFrom(times[count]);
            return count;
        }
    }

    /** One run through TIMES by a seed, and what it came to. */
    private static final class Living {
        private static final int MOST_DONE = 300;
        // 300 STEPS with their ends come nowhere near so many rows.
        private static final int FAR_TOO_MANY = 1000000;
        private final int[] turnsLeft = new int[Times.ROWS];
        private int drawn = 0;
        int stepsDone = 0;
        int missed = 0;
        int nights = 0;
        int drinks = 0;
        int evenings = 0;
        boolean wasCut = false;

        void runThrough(Company company, Times times, int seed) {
            drawn = seed;
            stepsDone = 0;
            missed = 0;
            nights = 0;
            drinks = 0;
            evenings = 0;
            wasCut = false;
            int row = 0;
            for (int i = 0; i < FAR_TOO_MANY && row < times.rowCount; i++) {
                if (times.words[row] == END) {
                    row = behindEnd(times, row);
                } else if (stepsDone >= MOST_DONE) {
                    wasCut = true;
                    return;
                } else {
                    stepsDone++;
                    row = behindStep(company, times, row);
                }
            }
        }

        private int behindEnd(Times times, int row) {
            int begin = times.partners[row];
            if (times.words[begin] == LOOP && turnsLeft[begin] > 1) {
                turnsLeft[begin]--;
                return begin + 1;
            }
            return row + 1;
        }

        private int behindStep(Company company, Times times, int row) {
            int person = times.people[row];
            switch (times.words[row]) {
                case DRINK:
                    liveDrink(company, person);
                    break;
                case NIGHT:
                    liveNights(company, times.numbers[row]);
                    break;
                case EVENING:
                    liveEvening(company);
                    break;
                case FILL:
                    liveFill(company, person, times.numbers[row]);
                    break;
                case ANY:
                    liveAny(company);
                    break;
                case WHEN:
                    return holds(company, times, row) ? row + 1 : times.partners[row] + 1;
                case LOOP:
                    turnsLeft[row] = times.numbers[row];
                    break;
                default:
                    return times.rowCount;
            }
            return row + 1;
        }

        private void liveDrink(Company company, int person) {
            if (!company.has(person) || !company.canDrink(person)) {
                missed++;
                return;
            }
            company.letDrink(person);
            drinks++;
        }

        private void liveNights(Company company, int many) {
            if (!company.hasNights(many)) {
                missed++;
                return;
            }
            company.passNights(many);
            nights += many;
        }

        private void liveEvening(Company company) {
            if (!company.hasNights(1)) {
                missed++;
                return;
            }
            company.passEvening(NONE);
            nights++;
            evenings++;
        }

        private void liveFill(Company company, int person, int many) {
            if (!company.has(person) || company.glasses[person] == many) {
                missed++;
                return;
            }
            company.glasses[person] = many;
        }

        private void liveAny(Company company) {
            if (company.count < 1) {
                missed++;
                return;
            }
            int person = drawBy(company.count);
            if (drawBy(16) < company.rules[ODDS]) {
                liveDrink(company, person);
            } else {
                liveNights(company, 1);
            }
        }

        private int drawBy(int n) {
            drawn = (drawn * 3261 + 11491) % 65536;
            return drawn / 8 % Math.max(1, n);
        }

        private boolean holds(Company company, Times times, int row) {
            int person = times.people[row];
            if (!company.has(person)) {
                return false;
            }
            if (times.tests[row] == LIT) {
                return company.isLit(person);
            }
            int much = times.tests[row] == WARM ? company.warmth[person] : company.glasses[person];
            switch (times.signs[row]) {
                case '<':
                    return much < times.numbers[row];
                case '>':
                    return much > times.numbers[row];
                default:
                    return much == times.numbers[row];
            }
        }
    }

    /**
     * The ways in which each PERSON warms one and nobody is warmed by two. They are
     * counted by sets, since to go through all of them would be long.
     */
    private static final class Ways {
        private final int[] allowed = new int[MOST_PEOPLE];
        // In how many ways the first PEOPLE warm just a set, as many as it has.
        private final int[] ahead = new int[1 << MOST_PEOPLE];
        // In how many ways the PEOPLE behind those warm just the others.
        private final int[] behind = new int[1 << MOST_PEOPLE];
        private int count = 0;
        private int full = 0;

        void begin(int people) {
            count = Math.min(people, MOST_PEOPLE);
            full = (1 << count) - 1;
            for (int p = 0; p < count; p++) {
                allowed[p] = full & ~(1 << p);
            }
        }

        // As everybody is warmed by one, those who did not DRINK warm just the others.
        void seen(int drank, int warmed) {
            for (int p = 0; p < count; p++) {
                allowed[p] &= (drank & 1 << p) != 0 ? warmed : ~warmed;
            }
        }

        void countAll() {
            for (int set = 0; set <= full; set++) {
                ahead[set] = 0;
                behind[set] = 0;
            }
            ahead[0] = 1;
            behind[full] = 1;
            for (int set = 0; set < full; set++) {
                spread(set);
            }
            for (int set = full - 1; set >= 0; set--) {
                gather(set);
            }
        }

        private void spread(int set) {
            int person = Integer.bitCount(set);
            for (int other = 0; other < count; other++) {
                if (isOpen(set, person, other)) {
                    ahead[set | 1 << other] += ahead[set];
                }
            }
        }

        private void gather(int set) {
            int person = Integer.bitCount(set);
            for (int other = 0; other < count; other++) {
                if (isOpen(set, person, other)) {
                    behind[set] += behind[set | 1 << other];
                }
            }
        }

        private boolean isOpen(int set, int person, int other) {
            return (allowed[person] & ~set & 1 << other) != 0;
        }

        int all() {
            return behind[0];
        }

        int through(int person, int other) {
            int sum = 0;
            for (int set = 0; set < full; set++) {
                if (Integer.bitCount(set) == person && isOpen(set, person, other)) {
                    sum += ahead[set] * behind[set | 1 << other];
                }
            }
            return sum;
        }

        int firstWhom(int person) {
            int set = 0;
            int whom = NONE;
            for (int p = 0; p <= person; p++) {
                whom = firstOpen(set, p);
                if (whom == NONE) {
                    return NONE;
                }
                set |= 1 << whom;
            }
            return whom;
        }

        private int firstOpen(int set, int person) {
            for (int other = 0; other < count; other++) {
                if (isOpen(set, person, other) && behind[set | 1 << other] > 0) {
                    return other;
                }
            }
            return NONE;
        }

        int bestAsked() {
            int best = 0;
            int fewest = mostThrough(0);
            for (int p = 1; p < count; p++) {
                int most = mostThrough(p);
                if (most < fewest) {
                    fewest = most;
                    best = p;
                }
            }
            return best;
        }

        private int mostThrough(int person) {
            int most = 0;
            for (int other = 0; other < count; other++) {
                most = Math.max(most, through(person, other));
            }
            return most;
        }
    }

    /** A TEST by glasses: in how many of all ways so many of them warm. */
    private static final class Glasses {
        static final int MOST = 12;
        private final long[] counts = new long[MOST + 1];
        private int glasses = 0;

        void taste(int n, int sixteenths) {
            glasses = Math.min(n, MOST);
            for (int i = 0; i <= MOST; i++) {
                counts[i] = 0;
            }
            counts[0] = 1;
            for (int i = 1; i <= glasses; i++) {
                for (int warm = i; warm > 0; warm--) {
                    counts[warm] = counts[warm] * (16 - sixteenths) + counts[warm - 1] * sixteenths;
                }
                counts[0] *= 16 - sixteenths;
            }
        }

        long all() {
            return 1L << 4 * glasses;
        }

        long below(int k) {
            long sum = 0;
            for (int i = 0; i < k && i <= glasses; i++) {
                sum += counts[i];
            }
            return sum;
        }

        long from(int k) {
            return all() - below(k);
        }
    }

    /** GAME, played on rows of its own. */
    private static final class Game {
        static final int MOST_TURNS = 4;
        private final Company table = new Company();
        private int turns = 0;
        private int worth = 0;
        private int move = NONE;

        int worth() {
            return worth;
        }

        int firstMove() {
            return move;
        }

        void playOut(Company company, int n) {
            table.takeFrom(company);
            turns = Math.min(n, MOST_TURNS);
            move = NONE;
            if (turns < 1) {
                worth = litCount();
                return;
            }
            worth = NONE;
            int all = table.count + 1;
            for (int p = 0; p < table.count; p++) {
                if (table.canDrink(p)) {
                    int found = behindDrink(p, 0, worth, all);
                    if (found > worth) {
                        worth = found;
                        move = p;
                    }
                }
            }
            int idle = draught(1, worth, all);
            if (idle > worth) {
                worth = idle;
                move = NONE;
            }
        }

        private int litCount() {
            return Integer.bitCount(table.litSet());
        }

        // low: what the butler has already elsewhere, high: what the draught has. What
        // is no better for its player than that is not gone through to the end.
        private int butler(int turn, int low, int high) {
            if (turn >= turns) {
                return litCount();
            }
            int best = draught(turn + 1, low, high);
            for (int p = 0; p < table.count && best < high; p++) {
                if (table.canDrink(p)) {
                    best = Math.max(best, behindDrink(p, turn, Math.max(low, best), high));
                }
            }
            return best;
        }

        private int behindDrink(int person, int turn, int low, int high) {
            int other = table.whom[person];
            int warmth = table.warmth[other];
            table.letDrink(person);
            int found = draught(turn + 1, low, high);
            table.glasses[person]++;
            table.warmth[other] = warmth;
            return found;
        }

        private int draught(int turn, int low, int high) {
            if (turn >= turns) {
                return litCount();
            }
            int best = butler(turn + 1, low, high);
            for (int p = 0; p < table.count && best > low; p++) {
                int warmth = table.warmth[p];
                int cooled = table.warmthIn(p, 1);
                if (cooled < warmth) {
                    table.warmth[p] = cooled;
                    best = Math.min(best, butler(turn + 1, low, Math.min(high, best)));
                    table.warmth[p] = warmth;
                }
            }
            return best;
        }
    }
}
