import java.util.Arrays;

/**
 * Teething by the parish: a parish told as a text, and what comes of it night by night.
 *
 * <p>The words in capitals (PARISH, PERSON, NIGHT, GIVES, BEARS, ..) are those of the document's Terms I to X.
 * Every row that a call needs is made with the object and used again, so no call makes anything.
 */
public final class TeethingParish {
    public static final int NONE = -1;

    // What calls answer in place of what they were asked for.
    private static final int NO_SUCH = -2;
    private static final int ROW_BELOW_NOTHING = -3;
    private static final int FAULTY = -4;
    private static final int ACTS_FORBID = -5;
    private static final int NOTHING_THERE = -6;
    private static final int BEYOND_THE_ROW = -7;
    private static final int OTHER_WIDTH = -8;

    private static final int FINE = 0;

    // Bounds of the document.
    private static final int MOST_NIGHTS = 12;
    private static final int MOST_PERSONS = 8;
    private static final int MOST_SETS = 1 << MOST_PERSONS;
    private static final int MOST_ACTS = 30;
    private static final int MOST_BYTES = 700;
    private static final int MOST_ACHE = 20;
    private static final int MOST_GROAN = 20;
    private static final int MOST_KINDNESS = 20;
    private static final int MOST_TEETH = 20;
    private static final int MOST_ROOM = 60;
    private static final int WIDEST_ROOM = 160;
    private static final int MOST_BORNE = 20_000;
    private static final int MOST_PAID = 999;
    private static final int MOST_SEED = 2_000_000_000;
    private static final int MOST_YEARS = 20;
    /** So many numbers of NIGHTS can be held back: 0 .. 3. */
    private static final int HOLDINGS = 4;
    private static final int LAST_FROM = 11;
    private static final int RULES = 4;
    private static final int SLOTS = 4;
    private static final int WIDTHS = 4;
    private static final int MOST_NUMBERS = 60;
    private static final int IMAGES = 3;

    /** Behind every NIGHT: an ache that comes then never comes, a child that is born then never is. */
    private static final int NEVER = 100;

    /** The one who kept nothing back stands behind all PERSONS, so his bit is 256. */
    private static final int NOBODY = MOST_PERSONS;

    /** More than all can BEAR (8 aches of 20, dear 9, in 12 NIGHTS). */
    private static final int FAR = 1_000_000;

    private final Tape tape = new Tape();
    private final Reader reader = new Reader(tape);
    private final Parish parish = new Parish();
    private final Parish[] images = new Parish[IMAGES];
    private final boolean[] imaged = new boolean[IMAGES];
    private final Slot[] slots = new Slot[SLOTS];
    private final Year now = new Year(parish);
    private final Year perhaps = new Year(parish);
    private final Planner planner = new Planner(parish);
    private final Between between = new Between(parish);
    private final Costs costs = new Costs(parish);
    private final Suspects suspects = new Suspects(parish);
    /** What two PERSONS BEAR by each pair of NIGHTS held back. */
    private final int[] firstBears = new int[HOLDINGS * HOLDINGS];
    private final int[] secondBears = new int[HOLDINGS * HOLDINGS];

    public TeethingParish() {
        for (int k = 0; k < IMAGES; k++) {
            images[k] = new Parish();
        }
        for (int slot = 0; slot < SLOTS; slot++) {
            slots[slot] = new Slot();
        }
        changed();
    }

    // The TAPE and the PARISH.

    public int feed(int a, int b, int c, int d, int e) {
        if (tape.length + 20 > MOST_BYTES) {
            return NONE;
        }
        tape.add(a);
        tape.add(b);
        tape.add(c);
        tape.add(d);
        tape.add(e);
        return tape.length;
    }

    public int end(int n) {
        if (n < 0 || n > tape.length) {
            return NONE;
        }
        tape.length = n;
        return n;
    }

    public int parish() {
        boolean good = reader.read();
        tape.length = 0;
        if (!good) {
            return FAULTY;
        }
        parish.become(reader.draft);
        changed();
        return parish.lines;
    }

    public int fault(int what) {
        if (what == 0) {
            return reader.fault;
        }
        return what == 1 ? reader.place : NONE;
    }

    public int person(int person, int what) {
        if (!isPerson(person)) {
            return NO_SUCH;
        }
        switch (what) {
            case 0:
                return parish.ache[person];
            case 1:
                return parish.from[person];
            case 2:
                return parish.dear[person];
            case 3:
                return parish.bears[person];
            default:
                return NO_SUCH;
        }
    }

    // The year as it is.

    public int gives(int person) {
        return isPerson(person) ? now.gives[person] : NO_SUCH;
    }

    public int given(int night) {
        return isNight(night) ? now.given[night] : NO_SUCH;
    }

    public int waits(int night) {
        return isNight(night) ? now.waits[night] : NO_SUCH;
    }

    public int left(int night) {
        return isNight(night) ? now.left[night] : NO_SUCH;
    }

    public int bears(int person) {
        return isPerson(person) ? now.bears[person] : NO_SUCH;
    }

    public int groans(int night) {
        return isNight(night) ? now.groans[night] : NO_SUCH;
    }

    public int all() {
        return isThere() ? now.all : NO_SUCH;
    }

    public int worst() {
        if (!isThere()) {
            return NO_SUCH;
        }
        int worst = NONE;
        int most = 0;
        for (int person = 0; person < parish.persons; person++) {
            if (now.bears[person] > most) {
                most = now.bears[person];
                worst = person;
            }
        }
        return worst;
    }

    public int crowded() {
        if (!isThere()) {
            return NO_SUCH;
        }
        for (int night = 0; night < parish.nights; night++) {
            if (now.waits[night] != 0) {
                return night;
            }
        }
        return NONE;
    }

    public int holds(int night) {
        return isNight(night) ? now.holds[night] : NO_SUCH;
    }

    public int cut(int night) {
        return isNight(night) ? now.cut[night] : NO_SUCH;
    }

    public int feast() {
        return isThere() ? nightOfTooth(parish.teeth) : NO_SUCH;
    }

    public int paid() {
        return isThere() ? parish.pays * now.teethCut() : NO_SUCH;
    }

    public int quiet() {
        if (!isThere()) {
            return NO_SUCH;
        }
        int quiet = 0;
        for (int night = 0; night < parish.nights; night++) {
            if (now.groans[night] == 0) {
                quiet |= 1 << night;
            }
        }
        return quiet;
    }

    public int kept() {
        if (!isThere()) {
            return NO_SUCH;
        }
        int kept = 0;
        for (int person = 0; person < parish.persons; person++) {
            if (now.gives[person] == NONE) {
                kept |= 1 << person;
            }
        }
        return kept;
    }

    public int idle() {
        if (!isThere()) {
            return NO_SUCH;
        }
        int idle = 0;
        for (int night = 0; night < parish.nights; night++) {
            if (now.given[night] == 0) {
                idle |= 1 << night;
            }
        }
        return idle;
    }

    public int big(int night) {
        if (!isNight(night)) {
            return NO_SUCH;
        }
        int big = NONE;
        int most = 0;
        for (int person = 0; person < parish.persons; person++) {
            if (now.gives[person] == night && parish.ache[person] > most) {
                most = parish.ache[person];
                big = person;
            }
        }
        return big;
    }

    public int last() {
        if (!isThere()) {
            return NO_SUCH;
        }
        int last = NONE;
        for (int person = 0; person < parish.persons; person++) {
            last = Math.max(last, now.gives[person]);
        }
        return last;
    }

    public int gap(int person) {
        if (!isPerson(person)) {
            return NO_SUCH;
        }
        int night = now.gives[person];
        return night == NONE ? NONE : night - parish.from[person];
    }

    public int when(int k) {
        if (!isThere() || k < 1 || k > MOST_TEETH) {
            return NO_SUCH;
        }
        return nightOfTooth(k);
    }

    public int share(int person, int what) {
        if (!isPerson(person) || !isPart(what)) {
            return NO_SUCH;
        }
        if (now.all == 0) {
            return NONE;
        }
        return (int) inLowestTerms(now.bears[person], now.all, what);
    }

    // The year as it would be.

    public int suits(int person) {
        if (!isPerson(person)) {
            return NO_SUCH;
        }
        int best = 0;
        int least = FAR;
        for (int from = 0; from <= LAST_FROM; from++) {
            perhaps.prepare();
            perhaps.from[person] = from;
            perhaps.pass();
            if (perhaps.all < least) {
                least = perhaps.all;
                best = from;
            }
        }
        return best;
    }

    public int without(int person) {
        if (!isPerson(person)) {
            return NO_SUCH;
        }
        passWithout(person);
        return perhaps.all;
    }

    public int blocks(int person) {
        if (!isPerson(person)) {
            return NO_SUCH;
        }
        passWithout(person);
        int blocked = 0;
        for (int who = 0; who < parish.persons; who++) {
            if (who != person && perhaps.bears[who] < now.bears[who]) {
                blocked |= 1 << who;
            }
        }
        return blocked;
    }

    public int wide() {
        if (!isThere()) {
            return NO_SUCH;
        }
        for (int room = 1; room <= WIDEST_ROOM; room++) {
            perhaps.prepare();
            perhaps.room = room;
            perhaps.pass();
            if (perhaps.all == 0) {
                return room;
            }
        }
        return NONE;
    }

    public int mild(int n) {
        if (!isThere() || n < 0 || n > WIDEST_ROOM) {
            return NO_SUCH;
        }
        int most = 0;
        int together = 0;
        for (int ache = 1; ache <= MOST_ACHE; ache++) {
            for (int person = 0; person < parish.persons; person++) {
                if (parish.ache[person] == ache && together + ache <= n) {
                    together += ache;
                    most++;
                }
            }
        }
        return most;
    }

    // RULES and GROANS.

    public int by(int rule) {
        if (!isThere() || !isRule(rule)) {
            return NO_SUCH;
        }
        passBy(rule);
        return perhaps.all;
    }

    public int rule() {
        if (!isThere()) {
            return NO_SUCH;
        }
        int best = 0;
        int least = FAR;
        for (int rule = 0; rule < RULES; rule++) {
            passBy(rule);
            if (perhaps.all < least) {
                least = perhaps.all;
                best = rule;
            }
        }
        return best;
    }

    public int groan(int person) {
        return isPerson(person) ? leastGroan(person, parish.rule) : NO_SUCH;
    }

    public int tempts(int rule) {
        return isThere() && isRule(rule) ? tempted(rule) : NO_SUCH;
    }

    public int proof() {
        if (!isThere()) {
            return NO_SUCH;
        }
        int proof = 0;
        for (int rule = 0; rule < RULES; rule++) {
            if (tempted(rule) == 0) {
                proof |= 1 << rule;
            }
        }
        return proof;
    }

    // PLANS.

    public int least() {
        if (!isThere()) {
            return NO_SUCH;
        }
        planner.work();
        return planner.least;
    }

    public int regret() {
        if (!isThere()) {
            return NO_SUCH;
        }
        planner.work();
        return now.all - planner.least;
    }

    public int plan(int person) {
        if (!isPerson(person)) {
            return NO_SUCH;
        }
        planner.work();
        return planner.nightOf(person);
    }

    public long ways() {
        if (!isThere()) {
            return NO_SUCH;
        }
        planner.work();
        return planner.ways;
    }

    public int room(int m) {
        if (!isThere() || m < 0 || m > MOST_BORNE) {
            return NO_SUCH;
        }
        planner.work();
        return planner.leastRoom(m);
    }

    // BETWEEN babies.

    public int pairs() {
        if (!isThere()) {
            return NO_SUCH;
        }
        between.work();
        return between.pairs;
    }

    public int bearer(int person) {
        if (!isPerson(person)) {
            return NO_SUCH;
        }
        between.work();
        return between.bearer[person];
    }

    public int spoons() {
        if (!isThere()) {
            return NO_SUCH;
        }
        between.work();
        return between.bearers;
    }

    public int lonely() {
        if (!isThere()) {
            return NO_SUCH;
        }
        between.work();
        int lonely = 0;
        for (int person = 0; person < parish.persons; person++) {
            if (between.bearer[person] == NONE) {
                lonely |= 1 << person;
            }
        }
        return lonely;
    }

    public int kinder(int set) {
        if (!isSet(set)) {
            return NO_SUCH;
        }
        for (int more = 0; more <= MOST_KINDNESS; more++) {
            if (between.allBorne(set, more)) {
                return more;
            }
        }
        return NONE;
    }

    // KEPT BACK.

    public int whose(int slot) {
        int trouble = troubleOfTeeth(slot);
        if (trouble != FINE) {
            return trouble;
        }
        suspects.question(slots[slot]);
        return suspects.suspected;
    }

    public int fits(int slot) {
        int trouble = troubleOfTeeth(slot);
        if (trouble != FINE) {
            return trouble;
        }
        suspects.question(slots[slot]);
        return Integer.bitCount(suspects.suspected);
    }

    public int ask(int slot) {
        int trouble = troubleOfTeeth(slot);
        if (trouble != FINE) {
            return trouble;
        }
        suspects.question(slots[slot]);
        return suspects.bestNight;
    }

    public int leaves(int slot) {
        int trouble = troubleOfTeeth(slot);
        if (trouble != FINE) {
            return trouble;
        }
        suspects.question(slots[slot]);
        return suspects.leftAtWorst;
    }

    // COSTS and SHARES.

    public int nights(int set) {
        if (!isSet(set)) {
            return NO_SUCH;
        }
        costs.work();
        return costs.nights[set];
    }

    public int costs(int set) {
        if (!isSet(set)) {
            return NO_SUCH;
        }
        costs.work();
        return costs.costOf(set);
    }

    public int fair(int slot) {
        int trouble = troubleOfShares(slot);
        if (trouble != FINE) {
            return trouble;
        }
        costs.work();
        int all = (1 << parish.persons) - 1;
        int cost = costs.costOf(all);
        boolean just = cost != NONE && costs.paidBy(slots[slot], all) == cost;
        return just && costs.leaver(slots[slot]) == NONE ? 1 : 0;
    }

    public int leave(int slot) {
        int trouble = troubleOfShares(slot);
        if (trouble != FINE) {
            return trouble;
        }
        costs.work();
        return costs.leaver(slots[slot]);
    }

    // Two who hold back.

    public int rests(int person, int other) {
        if (!areTwo(person, other)) {
            return NO_SUCH;
        }
        passHoldings(person, other);
        int rests = 0;
        for (int pair = 0; pair < HOLDINGS * HOLDINGS; pair++) {
            if (isRest(pair / HOLDINGS, pair % HOLDINGS)) {
                rests++;
            }
        }
        return rests;
    }

    public int rest(int person, int other) {
        if (!areTwo(person, other)) {
            return NO_SUCH;
        }
        passHoldings(person, other);
        for (int pair = 0; pair < HOLDINGS * HOLDINGS; pair++) {
            if (isRest(pair / HOLDINGS, pair % HOLDINGS)) {
                return 10 * (pair / HOLDINGS) + pair % HOLDINGS;
            }
        }
        return NONE;
    }

    public int holding(int person, int other, int x, int y) {
        if (!areTwo(person, other) || !isHeldBack(x) || !isHeldBack(y)) {
            return NO_SUCH;
        }
        passHolding(person, other, x, y);
        return perhaps.bears[person];
    }

    // Children by chance.

    public long born(int night, int what) {
        if (!isNight(night) || !isPart(what)) {
            return NO_SUCH;
        }
        long ways = 1;
        long unborn = 1;
        for (int n = 0; n <= night; n++) {
            ways *= 10;
            unborn *= 10 - parish.odds;
        }
        return inLowestTerms(ways - unborn, ways, what);
    }

    public long mean(int what) {
        if (!isThere() || !isPart(what)) {
            return NO_SUCH;
        }
        // Over 10 for each NIGHT till now: all that is borne by children born till now, and children not yet born.
        long borne = 0;
        long unborn = 1;
        long ways = 1;
        for (int night = 0; night < parish.nights; night++) {
            passBorn(night);
            borne = borne * 10 + unborn * parish.odds * perhaps.all;
            unborn *= 10 - parish.odds;
            ways *= 10;
        }
        passBorn(NEVER);
        return inLowestTerms(borne + unborn * perhaps.all, ways, what);
    }

    public int late(int night) {
        if (!isNight(night)) {
            return NO_SUCH;
        }
        passBorn(night);
        return perhaps.all;
    }

    public int drawn(int seed, int what) {
        if (!isThere() || !isSeed(seed) || !isPart(what)) {
            return NO_SUCH;
        }
        int night = drawnNight(seed);
        if (what == 0) {
            return night;
        }
        passBorn(night == NONE ? NEVER : night);
        return perhaps.all;
    }

    public int luck(int seed, int n, int person) {
        if (!isPerson(person) || !isSeed(seed) || n < 1 || n > MOST_YEARS) {
            return NO_SUCH;
        }
        int lucky = 0;
        for (int year = 0; year < n; year++) {
            int night = drawnNight((long) seed + year);
            passBorn(night == NONE ? NEVER : night);
            if (perhaps.gives[person] != NONE) {
                lucky++;
            }
        }
        return lucky;
    }

    // Acts.

    public int ache(int person, int n) {
        if (!isPerson(person) || n < 1 || n > MOST_ACHE) {
            return NO_SUCH;
        }
        return act(person, Parish.ACHE, n);
    }

    public int comes(int person, int n) {
        if (!isPerson(person) || n < 0 || n > LAST_FROM) {
            return NO_SUCH;
        }
        return act(person, Parish.FROM, n);
    }

    public int undo() {
        if (!isThere()) {
            return NO_SUCH;
        }
        if (parish.acts == 0) {
            return ACTS_FORBID;
        }
        parish.takeBack();
        changed();
        return parish.acts;
    }

    public int anew() {
        if (!isThere()) {
            return NO_SUCH;
        }
        int acts = parish.acts;
        for (int act = 0; act < acts; act++) {
            parish.takeBack();
        }
        changed();
        return acts;
    }

    public int widen(int n) {
        if (!isThere() || n < 1 || n > MOST_ROOM) {
            return NO_SUCH;
        }
        if (parish.acts > 0) {
            return ACTS_FORBID;
        }
        int was = parish.room;
        parish.room = n;
        changed();
        return was;
    }

    public int count(int what) {
        switch (what) {
            case 0:
                return parish.nights;
            case 1:
                return parish.room;
            case 2:
                return parish.tooth;
            case 3:
                return parish.teeth;
            case 4:
                return parish.rule;
            case 5:
                return parish.pays;
            case 6:
                return parish.odds;
            case 7:
                return parish.persons;
            case 8:
                return parish.acts;
            case 9:
                return parish.lines;
            case 10:
                return tape.length;
            case 11:
                return slotsWithRows();
            default:
                return NONE;
        }
    }

    public int image(int k) {
        if (!isImage(k)) {
            return NO_SUCH;
        }
        images[k].become(parish);
        imaged[k] = true;
        return FINE;
    }

    public int back(int k) {
        if (!isImage(k)) {
            return NO_SUCH;
        }
        if (!imaged[k]) {
            return NOTHING_THERE;
        }
        parish.become(images[k]);
        changed();
        return FINE;
    }

    // SLOTS.

    public int row(int slot, int width, int n) {
        if (!isSlot(slot) || width < 0 || width >= WIDTHS || n > MOST_NUMBERS) {
            return NO_SUCH;
        }
        if (n < 0) {
            return ROW_BELOW_NOTHING;
        }
        slots[slot].become(width, n);
        return FINE;
    }

    public int write(int slot, int i, long v) {
        if (!isSlot(slot)) {
            return NO_SUCH;
        }
        Slot row = slots[slot];
        if (!row.there) {
            return NOTHING_THERE;
        }
        if (i < 0 || i >= row.length) {
            return BEYOND_THE_ROW;
        }
        row.numbers[i] = row.narrowed(v);
        return FINE;
    }

    public int paste(int slot, int i, int to, int k, int n) {
        if (!isSlot(slot) || !isSlot(to)) {
            return NO_SUCH;
        }
        Slot source = slots[slot];
        Slot target = slots[to];
        if (!source.there || !target.there) {
            return NOTHING_THERE;
        }
        if (source.width != target.width) {
            return OTHER_WIDTH;
        }
        if (!source.reaches(i, n) || !target.reaches(k, n)) {
            return BEYOND_THE_ROW;
        }
        System.arraycopy(source.numbers, i, target.numbers, k, n);
        return FINE;
    }

    // What is there.

    private boolean isThere() {
        return parish.lines > 0;
    }

    private boolean isPerson(int person) {
        return person >= 0 && person < parish.persons;
    }

    private boolean areTwo(int person, int other) {
        return isPerson(person) && isPerson(other) && person != other;
    }

    private boolean isNight(int night) {
        return night >= 0 && night < parish.nights;
    }

    private boolean isSet(int set) {
        return isThere() && set >= 0 && set < 1 << parish.persons;
    }

    private boolean isRule(int rule) {
        return rule >= 0 && rule < RULES;
    }

    private boolean isPart(int what) {
        return what == 0 || what == 1;
    }

    private boolean isSeed(int seed) {
        return seed >= 0 && seed <= MOST_SEED;
    }

    private boolean isHeldBack(int x) {
        return x >= 0 && x < HOLDINGS;
    }

    private boolean isImage(int k) {
        return k >= 0 && k < IMAGES;
    }

    private boolean isSlot(int slot) {
        return slot >= 0 && slot < SLOTS;
    }

    private int slotsWithRows() {
        int rows = 0;
        for (int slot = 0; slot < SLOTS; slot++) {
            if (slots[slot].there) {
                rows++;
            }
        }
        return rows;
    }

    private int troubleOfRow(int slot) {
        if (!isSlot(slot) || !isThere()) {
            return NO_SUCH;
        }
        return slots[slot].there ? FINE : NOTHING_THERE;
    }

    private int troubleOfTeeth(int slot) {
        int trouble = troubleOfRow(slot);
        if (trouble != FINE) {
            return trouble;
        }
        Slot row = slots[slot];
        if (row.length % 2 != 0) {
            return NO_SUCH;
        }
        for (int i = 0; i + 1 < row.length; i += 2) {
            if (!row.isWithin(i, parish.nights - 1) || !row.isWithin(i + 1, MOST_TEETH)) {
                return NO_SUCH;
            }
        }
        return FINE;
    }

    private int troubleOfShares(int slot) {
        int trouble = troubleOfRow(slot);
        if (trouble != FINE) {
            return trouble;
        }
        Slot row = slots[slot];
        if (row.length != parish.persons) {
            return NO_SUCH;
        }
        for (int i = 0; i < row.length; i++) {
            if (!row.isWithin(i, MOST_PAID)) {
                return NO_SUCH;
            }
        }
        return FINE;
    }

    // What follows when the PARISH is another one.

    private void changed() {
        now.prepare();
        now.pass();
        planner.known = false;
        between.known = false;
        costs.known = false;
    }

    private int act(int person, int what, int n) {
        if (parish.acts >= MOST_ACTS) {
            return ACTS_FORBID;
        }
        int was = parish.change(person, what, n);
        changed();
        return was;
    }

    private int nightOfTooth(int k) {
        for (int night = 0; night < parish.nights; night++) {
            if (now.cut[night] >= k) {
                return night;
            }
        }
        return NONE;
    }

    // Years that could be.

    private void passWithout(int person) {
        perhaps.prepare();
        perhaps.from[person] = NEVER;
        perhaps.pass();
    }

    private void passBy(int rule) {
        perhaps.prepare();
        perhaps.rule = rule;
        perhaps.pass();
    }

    private void passBorn(int night) {
        perhaps.prepare();
        perhaps.birth = night;
        perhaps.pass();
    }

    private int leastGroan(int person, int rule) {
        passBy(rule);
        int honest = perhaps.bears[person];
        // Nobody BEARS less than nothing, and rules that do not look at aches hear no groan.
        if (honest == 0 || !perhaps.looksAtAches()) {
            return NONE;
        }
        for (int more = 1; more <= MOST_GROAN; more++) {
            perhaps.prepare();
            perhaps.rule = rule;
            perhaps.told[person] += more;
            perhaps.pass();
            if (perhaps.bears[person] < honest) {
                return more;
            }
        }
        return NONE;
    }

    private int tempted(int rule) {
        int tempted = 0;
        for (int person = 0; person < parish.persons; person++) {
            if (leastGroan(person, rule) != NONE) {
                tempted |= 1 << person;
            }
        }
        return tempted;
    }

    private void passHolding(int person, int second, int x, int y) {
        perhaps.prepare();
        perhaps.heldBack[person] = x;
        perhaps.heldBack[second] = y;
        perhaps.pass();
    }

    private void passHoldings(int person, int second) {
        for (int pair = 0; pair < HOLDINGS * HOLDINGS; pair++) {
            passHolding(person, second, pair / HOLDINGS, pair % HOLDINGS);
            firstBears[pair] = perhaps.bears[person];
            secondBears[pair] = perhaps.bears[second];
        }
    }

    /** Whether neither gains by another number alone (after passHoldings). */
    private boolean isRest(int x, int y) {
        int pair = HOLDINGS * x + y;
        for (int another = 0; another < HOLDINGS; another++) {
            if (firstBears[HOLDINGS * another + y] < firstBears[pair]
                    || secondBears[HOLDINGS * x + another] < secondBears[pair]) {
                return false;
            }
        }
        return true;
    }

    private int drawnNight(long seed) {
        long x = seed;
        for (int night = 0; night < parish.nights; night++) {
            x = (1_103_515_245L * x + 12_345L) % 2_147_483_648L;
            if (x / 65_536 % 10 < parish.odds) {
                return night;
            }
        }
        return NONE;
    }

    // Sums and fractions.

    /** The part above (what 0) or below (1) of a fraction in lowest terms. */
    private static long inLowestTerms(long above, long below, int what) {
        long divisor = commonDivisor(above, below);
        long told = what == 0 ? above : below;
        return divisor == 0 ? told : told / divisor;
    }

    private static long commonDivisor(long a, long b) {
        // Euclid's way takes fewer than a hundred steps for any two longs.
        for (int step = 0; step < 100 && b != 0; step++) {
            long rest = a % b;
            a = b;
            b = rest;
        }
        return a;
    }

    /** For each set of PERSONS the sum of their values. */
    private static void sumBySets(int[] values, int persons, int[] sums) {
        sums[0] = 0;
        for (int person = 0; person < persons; person++) {
            int bit = 1 << person;
            for (int set = 0; set < bit; set++) {
                sums[set | bit] = sums[set] + values[person];
            }
        }
    }

    /** The bytes that were fed. */
    private static final class Tape {
        private final byte[] bytes = new byte[MOST_BYTES];
        private int length = 0;

        private void add(int four) {
            for (int shift = 24; shift >= 0 && length < MOST_BYTES; shift -= 8) {
                bytes[length] = (byte) (four >> shift);
                length++;
            }
        }
    }

    /** What a PARISH tells, with the acts done since; lines 0 is no PARISH, and all its numbers are 0 then. */
    private static final class Parish {
        private static final int ACHE = 0;
        private static final int FROM = 1;

        private int lines = 0;
        private int nights = 0;
        private int room = 0;
        private int tooth = 0;
        private int teeth = 0;
        private int rule = 0;
        private int pays = 0;
        private int odds = 0;
        private int persons = 0;
        private int acts = 0;
        private final int[] ache = new int[MOST_PERSONS];
        private final int[] from = new int[MOST_PERSONS];
        private final int[] dear = new int[MOST_PERSONS];
        private final int[] bears = new int[MOST_PERSONS];
        private final int[] actor = new int[MOST_ACTS];
        /** What each act changed, ACHE or FROM. */
        private final int[] changed = new int[MOST_ACTS];
        private final int[] was = new int[MOST_ACTS];

        private void clear() {
            lines = 0;
            nights = 0;
            room = 0;
            tooth = 0;
            teeth = 0;
            rule = 0;
            pays = 0;
            odds = 0;
            persons = 0;
            acts = 0;
        }

        private void become(Parish told) {
            lines = told.lines;
            nights = told.nights;
            room = told.room;
            tooth = told.tooth;
            teeth = told.teeth;
            rule = told.rule;
            pays = told.pays;
            odds = told.odds;
            persons = told.persons;
            acts = told.acts;
            System.arraycopy(told.ache, 0, ache, 0, MOST_PERSONS);
            System.arraycopy(told.from, 0, from, 0, MOST_PERSONS);
            System.arraycopy(told.dear, 0, dear, 0, MOST_PERSONS);
            System.arraycopy(told.bears, 0, bears, 0, MOST_PERSONS);
            System.arraycopy(told.actor, 0, actor, 0, MOST_ACTS);
            System.arraycopy(told.changed, 0, changed, 0, MOST_ACTS);
            System.arraycopy(told.was, 0, was, 0, MOST_ACTS);
        }

        /** Does an act: what stood there. There must be place for it. */
        private int change(int person, int what, int n) {
            int[] told = what == ACHE ? ache : from;
            int old = told[person];
            told[person] = n;
            actor[acts] = person;
            changed[acts] = what;
            was[acts] = old;
            acts++;
            return old;
        }

        private void takeBack() {
            if (acts == 0) {
                return;
            }
            acts--;
            int[] told = changed[acts] == ACHE ? ache : from;
            told[actor[acts]] = was[acts];
        }

        /** Sets what stands behind the field's word; the fields of a PERSON are those of the latest one. */
        private void tell(int field, int n) {
            switch (field) {
                case 0:
                    nights = n;
                    break;
                case 1:
                    room = n;
                    break;
                case 2:
                    tooth = n;
                    break;
                case 3:
                    teeth = n;
                    break;
                case 4:
                    rule = n;
                    break;
                case 5:
                    pays = n;
                    break;
                case 6:
                    odds = n;
                    break;
                default:
                    tellPerson(field, n);
                    break;
            }
        }

        private void tellPerson(int field, int n) {
            int person = persons - 1;
            if (person < 0 || person >= MOST_PERSONS) {
                return;
            }
            switch (field) {
                case 7:
                    ache[person] = n;
                    break;
                case 8:
                    from[person] = n;
                    break;
                case 9:
                    dear[person] = n;
                    break;
                default:
                    bears[person] = n;
                    break;
            }
        }
    }

    /** Reads the TAPE, TOKEN by TOKEN, into a draft, up to the first FAULT. */
    private static final class Reader {
        private static final int END = 0;
        private static final int WORD = 1;
        private static final int NUMBER = 2;
        private static final int SIGN = 3;
        private static final int NO_TOKEN = 4;

        private static final int MISPLACED = 1;
        private static final int OUT_OF_BOUNDS = 2;
        private static final int NINTH_PERSON = 3;

        /** Fields 0 .. 6 are those of the first LINE, 7 .. 10 those of a PERSON. */
        private static final int PARISH_FIELDS = 7;
        private static final int FIELDS = 11;
        private static final int[] LEAST = {1, 1, 1, 1, 0, 0, 0, 1, 0, 1, 0};
        private static final int[] MOST = {12, 60, 40, 20, 3, 99, 10, 20, 11, 9, 20};

        /** Above every bound, so that a long number needs not be known any further. */
        private static final int TOO_MUCH = 1000;

        private final Tape tape;
        private final Parish draft = new Parish();
        private int fault = 0;
        private int place = NONE;
        private int kind = END;
        private int start = 0;
        private int at = 0;

        private Reader(Tape tape) {
            this.tape = tape;
        }

        /** Whether there is no FAULT; the draft is whole then. */
        private boolean read() {
            draft.clear();
            fault = 0;
            place = NONE;
            at = 0;
            for (int line = 0; line <= MOST_BYTES; line++) {
                next();
                if (kind == END) {
                    return true;
                }
                if (!readLine(line == 0)) {
                    return false;
                }
                draft.lines++;
            }
            return true;
        }

        private boolean readLine(boolean first) {
            if (first) {
                return isWord("parish") && readFields(0, PARISH_FIELDS);
            }
            if (!isWord("person")) {
                return false;
            }
            if (draft.persons >= MOST_PERSONS) {
                return failed(NINTH_PERSON);
            }
            draft.persons++;
            return readFields(PARISH_FIELDS, FIELDS);
        }

        private boolean readFields(int from, int to) {
            for (int field = from; field < to; field++) {
                next();
                if (!isWord(wordOf(field))) {
                    return false;
                }
                next();
                if (kind != NUMBER) {
                    return failed(MISPLACED);
                }
                int n = numberRead();
                if (n < LEAST[field] || n > MOST[field]) {
                    return failed(OUT_OF_BOUNDS);
                }
                draft.tell(field, n);
            }
            next();
            return kind == SIGN || failed(MISPLACED);
        }

        private static String wordOf(int field) {
            switch (field) {
                case 0:
                    return "nights";
                case 1:
                    return "room";
                case 2:
                    return "tooth";
                case 3:
                    return "teeth";
                case 4:
                    return "rule";
                case 5:
                    return "pays";
                case 6:
                    return "odds";
                case 7:
                    return "ache";
                case 8:
                    return "from";
                case 9:
                    return "dear";
                default:
                    return "bears";
            }
        }

        private boolean failed(int why) {
            fault = why;
            place = start;
            return false;
        }

        private void next() {
            while (at < tape.length && isBlank(tape.bytes[at])) {
                at++;
            }
            start = at;
            kind = at < tape.length ? kindOf(tape.bytes[at]) : END;
            if (kind == END) {
                return;
            }
            at++;
            if (kind == WORD || kind == NUMBER) {
                while (at < tape.length && kindOf(tape.bytes[at]) == kind) {
                    at++;
                }
            }
        }

        private static boolean isBlank(int sign) {
            return sign == 32 || sign == 10;
        }

        private static int kindOf(int sign) {
            if (sign >= 'a' && sign <= 'z') {
                return WORD;
            }
            if (sign >= '0' && sign <= '9') {
                return NUMBER;
            }
            return sign == ';' ? SIGN : NO_TOKEN;
        }

        /** Whether the TOKEN is this word; it is a FAULT if not. */
        private boolean isWord(String word) {
            if (kind != WORD || at - start != word.length()) {
                return failed(MISPLACED);
            }
            for (int i = 0; i < word.length(); i++) {
                if (tape.bytes[start + i] != word.charAt(i)) {
                    return failed(MISPLACED);
                }
            }
            return true;
        }

        private int numberRead() {
            int n = 0;
            for (int i = start; i < at; i++) {
                n = Math.min(TOO_MUCH, n * 10 + tape.bytes[i] - '0');
            }
            return n;
        }
    }

    /** All NIGHTS one after the other, as the PARISH tells them or with something changed ahead of pass(). */
    private static final class Year {
        private final Parish parish;
        private int room = 0;
        private int rule = 0;
        /** The NIGHT in which the child is born. */
        private int birth = 0;
        private int all = 0;
        /** What the RULE hears of aches. */
        private final int[] told = new int[MOST_PERSONS];
        private final int[] from = new int[MOST_PERSONS];
        private final int[] heldBack = new int[MOST_PERSONS];
        private final int[] order = new int[MOST_PERSONS];
        private final int[] gives = new int[MOST_PERSONS];
        private final int[] bears = new int[MOST_PERSONS];
        private final int[] given = new int[MOST_NIGHTS];
        private final int[] waits = new int[MOST_NIGHTS];
        private final int[] left = new int[MOST_NIGHTS];
        private final int[] groans = new int[MOST_NIGHTS];
        private final int[] holds = new int[MOST_NIGHTS];
        private final int[] cut = new int[MOST_NIGHTS];

        private Year(Parish parish) {
            this.parish = parish;
        }

        private void prepare() {
            room = parish.room;
            rule = parish.rule;
            birth = 0;
            System.arraycopy(parish.ache, 0, told, 0, MOST_PERSONS);
            System.arraycopy(parish.from, 0, from, 0, MOST_PERSONS);
            Arrays.fill(heldBack, 0);
        }

        private void pass() {
            all = 0;
            Arrays.fill(gives, NONE);
            Arrays.fill(bears, 0);
            putInOrder();
            int held = 0;
            int teethCut = 0;
            for (int night = 0; night < parish.nights; night++) {
                passNight(night, night >= birth && teethCut < parish.teeth);
                held += room - left[night];
                int more = parish.tooth > 0 ? Math.min(held / parish.tooth, parish.teeth - teethCut) : 0;
                teethCut += more;
                held -= more * parish.tooth;
                holds[night] = held;
                cut[night] = teethCut;
                all += groans[night];
            }
        }

        private void passNight(int night, boolean open) {
            given[night] = 0;
            waits[night] = 0;
            left[night] = room;
            groans[night] = 0;
            for (int turn = 0; turn < parish.persons; turn++) {
                int person = order[turn];
                int ache = parish.ache[person];
                if (from[person] > night || gives[person] != NONE) {
                    continue;
                }
                if (open && night >= from[person] + heldBack[person] && ache <= left[night]) {
                    gives[person] = night;
                    given[night] |= 1 << person;
                    left[night] -= ache;
                } else {
                    int borne = ache * parish.dear[person];
                    waits[night] |= 1 << person;
                    groans[night] += borne;
                    bears[person] += borne;
                }
            }
        }

        private void putInOrder() {
            for (int person = 0; person < parish.persons; person++) {
                int rank = rankOf(person);
                int turn = person;
                // Like ones are not passed by, so the least number stays ahead.
                while (turn > 0 && rankOf(order[turn - 1]) > rank) {
                    order[turn] = order[turn - 1];
                    turn--;
                }
                order[turn] = person;
            }
        }

        private int rankOf(int person) {
            switch (rule) {
                case 1:
                    return -told[person];
                case 2:
                    return told[person];
                case 3:
                    return from[person];
                default:
                    return 0;
            }
        }

        private boolean looksAtAches() {
            return rule == 1 || rule == 2;
        }

        private int teethCut() {
            return parish.nights > 0 ? cut[parish.nights - 1] : 0;
        }
    }

    /**
     * PLANS (Term IV), NIGHT by NIGHT over the sets of PERSONS who have given by then.
     *
     * <p>A plan's worth is one number: what all BEAR by it above, its row below, four bits a PERSON, the first PERSON
     * highest, 0 for none and a NIGHT's number and 1 else. Both add up PERSON by PERSON, so the least worth is the
     * first row of those by which least is borne.
     */
    private static final class Planner {
        private static final int ROW_BITS = 32;
        private static final long UNREACHED = (long) FAR << ROW_BITS;

        private final Parish parish;
        private boolean known = false;
        private int least = 0;
        private long ways = 0;
        private long first = 0;
        private final int[] value = new int[MOST_PERSONS];
        private final int[] aches = new int[MOST_SETS];
        /** What a set BEARS in one NIGHT, if all of it have their aches. */
        private final int[] perNight = new int[MOST_SETS];
        /** What a set would have borne ahead of its froms; the later they come, the more is spared. */
        private final int[] spared = new int[MOST_SETS];
        /** What a set BEARS that never GIVES. */
        private final int[] neverGiven = new int[MOST_SETS];
        /** The row's bits of a set that GIVES in NIGHT 0. */
        private final long[] mark = new long[MOST_SETS];
        private final long[] worth = new long[MOST_SETS];
        private final long[] count = new long[MOST_SETS];

        private Planner(Parish parish) {
            this.parish = parish;
        }

        private void work() {
            if (known) {
                return;
            }
            addUp();
            search(parish.room);
            known = true;
        }

        private int nightOf(int person) {
            return (int) (first >> shiftOf(person) & 15) - 1;
        }

        /** More room never takes a plan away, so the least room is found by halves. */
        private int leastRoom(int most) {
            if (leastBy(WIDEST_ROOM) > most) {
                return NONE;
            }
            int tooSmall = 0;
            int enough = WIDEST_ROOM;
            for (int half = 0; half < 10 && enough - tooSmall > 1; half++) {
                int room = (tooSmall + enough) / 2;
                if (leastBy(room) <= most) {
                    enough = room;
                } else {
                    tooSmall = room;
                }
            }
            return enough;
        }

        private int leastBy(int room) {
            int keptLeast = least;
            long keptWays = ways;
            long keptFirst = first;
            search(room);
            int found = least;
            least = keptLeast;
            ways = keptWays;
            first = keptFirst;
            return found;
        }

        private static int shiftOf(int person) {
            return 4 * (MOST_PERSONS - 1 - person);
        }

        private void addUp() {
            int persons = parish.persons;
            sumBySets(parish.ache, persons, aches);
            for (int person = 0; person < persons; person++) {
                value[person] = parish.ache[person] * parish.dear[person];
            }
            sumBySets(value, persons, perNight);
            for (int person = 0; person < persons; person++) {
                value[person] = parish.ache[person] * parish.dear[person] * parish.from[person];
            }
            sumBySets(value, persons, spared);
            for (int person = 0; person < persons; person++) {
                int nightsWith = Math.max(0, parish.nights - parish.from[person]);
                value[person] = parish.ache[person] * parish.dear[person] * nightsWith;
            }
            sumBySets(value, persons, neverGiven);
            mark[0] = 0;
            for (int person = 0; person < persons; person++) {
                int bit = 1 << person;
                for (int set = 0; set < bit; set++) {
                    mark[set | bit] = mark[set] + (1L << shiftOf(person));
                }
            }
        }

        private void search(int room) {
            int everybody = (1 << parish.persons) - 1;
            int mostGiven = parish.tooth * parish.teeth;
            for (int set = 0; set <= everybody; set++) {
                worth[set] = UNREACHED;
                count[set] = 0;
            }
            worth[0] = 0;
            count[0] = 1;
            for (int night = 0; night < parish.nights; night++) {
                int come = 0;
                for (int person = 0; person < parish.persons; person++) {
                    if (parish.from[person] <= night) {
                        come |= 1 << person;
                    }
                }
                int mostByNow = Math.min(mostGiven, room * (night + 1));
                // Each set comes ahead of the sets inside it, which so still stand as they were the NIGHT before.
                for (int set = come; set > 0; set = (set - 1) & come) {
                    if (aches[set] <= mostByNow) {
                        giveInNight(set, night, room);
                    }
                }
            }
            takeLeast(everybody);
        }

        /** The best of all ways to have a set given by the end of a NIGHT: any part of it gives in that NIGHT. */
        private void giveInNight(int set, int night, int room) {
            long best = worth[set];
            long bestCount = count[set];
            for (int part = set; part > 0; part = (part - 1) & set) {
                if (aches[part] > room || worth[set ^ part] >= UNREACHED) {
                    continue;
                }
                long borne = (long) perNight[part] * night - spared[part];
                long candidate = worth[set ^ part] + (borne << ROW_BITS) + mark[part] * (night + 1);
                long dearer = (candidate >> ROW_BITS) - (best >> ROW_BITS);
                if (dearer == 0) {
                    bestCount += count[set ^ part];
                } else if (dearer < 0) {
                    bestCount = count[set ^ part];
                }
                best = Math.min(best, candidate);
            }
            worth[set] = best;
            count[set] = bestCount;
        }

        private void takeLeast(int everybody) {
            long best = UNREACHED;
            ways = 0;
            for (int set = 0; set <= everybody; set++) {
                if (worth[set] >= UNREACHED) {
                    continue;
                }
                long candidate = worth[set] + ((long) neverGiven[everybody ^ set] << ROW_BITS);
                long dearer = (candidate >> ROW_BITS) - (best >> ROW_BITS);
                if (dearer == 0) {
                    ways += count[set];
                } else if (dearer < 0) {
                    ways = count[set];
                }
                best = Math.min(best, candidate);
            }
            least = (int) (best >> ROW_BITS);
            first = best & ((1L << ROW_BITS) - 1);
        }
    }

    /** Who bears for whom BETWEEN babies (Term VI). */
    private static final class Between {
        private final Parish parish;
        private boolean known = false;
        private int pairs = 0;
        private int bearers = 0;
        private final int[] bearer = new int[MOST_PERSONS];
        /** For each PERSON, as bits, who can bear for him. */
        private final int[] helpers = new int[MOST_PERSONS];
        /** The same, if a set bears more. */
        private final int[] kinderHelpers = new int[MOST_PERSONS];
        /** From a PERSON on, with a set of bearers used up: for how many others can bear. */
        private final int[] most = new int[(MOST_PERSONS + 1) * MOST_SETS];
        /** 1 for the sets of bearers that can be the ones used up. */
        private final int[] reached = new int[MOST_SETS];

        private Between(Parish parish) {
            this.parish = parish;
        }

        private void work() {
            if (known) {
                return;
            }
            findHelpers(helpers, 0, 0);
            countFromBehind();
            chooseFirst();
            known = true;
        }

        private void findHelpers(int[] helpers, int set, int more) {
            for (int person = 0; person < parish.persons; person++) {
                helpers[person] = 0;
                for (int who = 0; who < parish.persons; who++) {
                    int bears = parish.bears[who] + ((set >> who & 1) != 0 ? more : 0);
                    if (who != person && parish.ache[person] <= bears) {
                        helpers[person] |= 1 << who;
                    }
                }
            }
        }

        private void countFromBehind() {
            int persons = parish.persons;
            int sets = 1 << persons;
            for (int used = 0; used < sets; used++) {
                most[persons * MOST_SETS + used] = 0;
            }
            for (int person = persons - 1; person >= 0; person--) {
                for (int used = 0; used < sets; used++) {
                    int best = most[(person + 1) * MOST_SETS + used];
                    int free = helpers[person] & ~used;
                    for (int who = 0; who < persons; who++) {
                        if ((free >> who & 1) != 0) {
                            best = Math.max(best, 1 + most[(person + 1) * MOST_SETS + (used | 1 << who)]);
                        }
                    }
                    most[person * MOST_SETS + used] = best;
                }
            }
        }

        private void chooseFirst() {
            int persons = parish.persons;
            pairs = most[0];
            bearers = 0;
            for (int person = 0; person < persons; person++) {
                bearer[person] = NONE;
                int free = helpers[person] & ~bearers;
                int due = most[person * MOST_SETS + bearers];
                for (int who = 0; who < persons && bearer[person] == NONE; who++) {
                    boolean can = (free >> who & 1) != 0;
                    if (can && 1 + most[(person + 1) * MOST_SETS + (bearers | 1 << who)] == due) {
                        bearer[person] = who;
                    }
                }
                if (bearer[person] != NONE) {
                    bearers |= 1 << bearer[person];
                }
            }
        }

        /** Whether somebody can bear for each of a set whose PERSONS bear more than they told. */
        private boolean allBorne(int set, int more) {
            findHelpers(kinderHelpers, set, more);
            Arrays.fill(reached, 0);
            reached[0] = 1;
            int borne = 0;
            boolean some = true;
            for (int person = 0; person < parish.persons && some; person++) {
                if ((set >> person & 1) != 0) {
                    some = addBearers(person, borne);
                    borne++;
                }
            }
            return some;
        }

        /** Sets of as many bearers as PERSONS were borne for get one more each; whether there are any then. */
        private boolean addBearers(int person, int borne) {
            int sets = 1 << parish.persons;
            boolean some = false;
            for (int used = 0; used < sets; used++) {
                if (reached[used] == 0 || Integer.bitCount(used) != borne) {
                    continue;
                }
                int free = kinderHelpers[person] & ~used;
                for (int who = 0; who < parish.persons; who++) {
                    if ((free >> who & 1) != 0) {
                        reached[used | 1 << who] = 1;
                        some = true;
                    }
                }
            }
            return some;
        }
    }

    /** COST of the sets of PERSONS (Term VIII). */
    private static final class Costs {
        private final Parish parish;
        private boolean known = false;
        private final int[] aches = new int[MOST_SETS];
        private final int[] nights = new int[MOST_SETS];

        private Costs(Parish parish) {
            this.parish = parish;
        }

        private void work() {
            if (known) {
                return;
            }
            sumBySets(parish.ache, parish.persons, aches);
            int sets = 1 << parish.persons;
            nights[0] = 0;
            for (int set = 1; set < sets; set++) {
                nights[set] = fewest(set);
            }
            known = true;
        }

        /** NONE, if any set inside has none; else one NIGHT for the lowest PERSON and some others, and the rest. */
        private int fewest(int set) {
            int lowest = set & -set;
            int best = NONE;
            if (nights[set ^ lowest] == NONE) {
                return NONE;
            }
            for (int part = set; part > 0; part = (part - 1) & set) {
                if ((part & lowest) != 0 && aches[part] <= parish.room) {
                    int tried = 1 + nights[set ^ part];
                    best = best == NONE ? tried : Math.min(best, tried);
                }
            }
            return best;
        }

        private int costOf(int set) {
            return nights[set] == NONE ? NONE : parish.pays * nights[set];
        }

        private int paidBy(Slot row, int set) {
            int paid = 0;
            for (int person = 0; person < row.length && person < MOST_PERSONS; person++) {
                if ((set >> person & 1) != 0) {
                    paid += (int) row.numbers[person];
                }
            }
            return paid;
        }

        private int leaver(Slot row) {
            int sets = 1 << parish.persons;
            for (int set = 0; set < sets; set++) {
                int cost = costOf(set);
                if (cost != NONE && paidBy(row, set) > cost) {
                    return set;
                }
            }
            return NONE;
        }
    }

    /** Whose ache was KEPT BACK (Term VII). */
    private static final class Suspects {
        private final Parish parish;
        private final Year year;
        private int suspected = 0;
        private int bestNight = NONE;
        private int leftAtWorst = 0;
        /** TEETH cut by the end of each NIGHT, for each suspect. */
        private final int[] cut = new int[(MOST_PERSONS + 1) * MOST_NIGHTS];
        private final int[] alike = new int[MOST_TEETH + 1];

        private Suspects(Parish parish) {
            this.parish = parish;
            year = new Year(parish);
        }

        private void question(Slot row) {
            suspected = 0;
            for (int who = 0; who <= NOBODY; who++) {
                if (who < parish.persons || who == NOBODY) {
                    suspect(row, who);
                }
            }
            bestNight = NONE;
            leftAtWorst = Integer.bitCount(suspected);
            for (int night = 0; night < parish.nights; night++) {
                int worst = mostAlike(night);
                if (worst < leftAtWorst) {
                    leftAtWorst = worst;
                    bestNight = night;
                }
            }
        }

        private void suspect(Slot row, int who) {
            year.prepare();
            if (who != NOBODY) {
                year.from[who] = NEVER;
            }
            year.pass();
            System.arraycopy(year.cut, 0, cut, who * MOST_NIGHTS, MOST_NIGHTS);
            boolean as = true;
            for (int i = 0; i + 1 < row.length; i += 2) {
                as = as && year.cut[(int) row.numbers[i]] == row.numbers[i + 1];
            }
            if (as) {
                suspected |= 1 << who;
            }
        }

        /** How many suspects the commonest answer of a NIGHT leaves. */
        private int mostAlike(int night) {
            Arrays.fill(alike, 0);
            int most = 0;
            for (int who = 0; who <= NOBODY; who++) {
                if ((suspected >> who & 1) != 0) {
                    int teeth = cut[who * MOST_NIGHTS + night];
                    alike[teeth]++;
                    most = Math.max(most, alike[teeth]);
                }
            }
            return most;
        }
    }

    /** A row of numbers of one WIDTH, or nothing. */
    private static final class Slot {
        private boolean there = false;
        private int width = 0;
        private int length = 0;
        private final long[] numbers = new long[MOST_NUMBERS];

        private void become(int width, int length) {
            there = true;
            this.width = width;
            this.length = length;
            Arrays.fill(numbers, 0L);
        }

        private long narrowed(long v) {
            switch (width) {
                case 0:
                    return (byte) v;
                case 1:
                    return (short) v;
                case 2:
                    return (int) v;
                default:
                    return v;
            }
        }

        private boolean reaches(int i, int n) {
            return i >= 0 && n >= 0 && i <= length - n;
        }

        private boolean isWithin(int i, int most) {
            return i >= 0 && i < length && numbers[i] >= 0 && numbers[i] <= most;
        }
    }
}
