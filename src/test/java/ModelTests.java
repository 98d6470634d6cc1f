import java.util.Arrays;
import java.util.List;
import java.util.Random;

/** Parishes by chance (from fixed seeds): each answer is held against the one of the Model. */
public final class ModelTests {
    private static final int PARISHES = 500;
    private static final int ACTS = 3;

    private final Random random;
    private final Model model = new Model();
    private TeethingParish x = new TeethingParish();
    private int calls = 0;
    private String where = "";

    private ModelTests(int seed) {
        random = new Random(seed);
    }

    public static void main(String[] args) {
        for (int seed = 0; seed < PARISHES; seed++) {
            new ModelTests(seed).run();
        }
        Checks.close();
    }

    private void run() {
        model.invent(random);
        Checks.tell(x, model.text());
        askAll();
        for (int n = 0; n < ACTS && !model.persons.isEmpty(); n++) {
            int p = random.nextInt(model.persons.size());
            int[] person = model.persons.get(p);
            renew();
            if (random.nextBoolean()) {
                int ache = 1 + random.nextInt(random.nextBoolean() ? 20 : 8);
                due("ache", x.ache(p, ache), person[0]);
                person[0] = ache;
            } else {
                int from = random.nextInt(model.nights + 1) % 12;
                due("comes", x.comes(p, from), person[1]);
                person[1] = from;
            }
            askAll();
        }
        renew();
        int room = 1 + random.nextInt(60);
        due("widen", x.widen(room), model.room);
        model.room = room;
        askAll();
    }

    /** An object is good for 512 calls, so another one is told what is so now. */
    private void renew() {
        x = new TeethingParish();
        calls = 0;
        Checks.tell(x, model.text());
    }

    private void due(String call, long got, long want) {
        calls++;
        if (got != want) {
            Checks.due(call + where + " of " + model.text(), got, want);
        } else {
            Checks.due(call, got, want);
        }
    }

    private void askAll() {
        askYear();
        askBits();
        askWhatIf();
        askGroans();
        renew();
        askPlans();
        askBetween();
        renew();
        askSuspects();
        askCosts();
        askShares();
        renew();
        askRests();
        askChild();
        Checks.holds("calls of one object", calls <= 450);
    }

    private void askYear() {
        Model.Outcome o = model.year();
        for (int night = 0; night < model.nights; night++) {
            due("given", x.given(night), o.given[night]);
            due("waits", x.waits(night), o.waits[night]);
            due("left", x.left(night), o.left[night]);
            due("groans", x.groans(night), o.groans[night]);
            due("holds", x.holds(night), o.holds[night]);
            due("cut", x.cut(night), o.cut[night]);
        }
        for (int p = 0; p < model.persons.size(); p++) {
            due("gives", x.gives(p), o.gives[p]);
            due("bears", x.bears(p), o.bears[p]);
            due("gap", x.gap(p), o.gives[p] < 0 ? -1 : o.gives[p] - model.persons.get(p)[1]);
            int divisor = java.math.BigInteger.valueOf(o.bears[p]).gcd(java.math.BigInteger.valueOf(o.all)).intValue();
            due("share", x.share(p, 0), o.all == 0 ? -1 : o.bears[p] / divisor);
            due("share below", x.share(p, 1), o.all == 0 ? -1 : o.all / divisor);
        }
        due("all", x.all(), o.all);
        due("feast", x.feast(), o.feast);
        due("paid", x.paid(), o.cut[model.nights - 1] * model.pays);
    }

    private void askBits() {
        Model.Outcome o = model.year();
        int quiet = 0;
        int idle = 0;
        int crowded = -1;
        for (int night = model.nights - 1; night >= 0; night--) {
            quiet += o.groans[night] == 0 ? 1 << night : 0;
            idle += o.given[night] == 0 ? 1 << night : 0;
            crowded = o.waits[night] != 0 ? night : crowded;
            int big = -1;
            for (int p = model.persons.size() - 1; p >= 0; p--) {
                boolean bigger = big < 0 || model.persons.get(p)[0] >= model.persons.get(big)[0];
                big = o.gives[p] == night && bigger ? p : big;
            }
            due("big", x.big(night), big);
        }
        int kept = 0;
        int worst = -1;
        for (int p = 0; p < model.persons.size(); p++) {
            kept += o.gives[p] < 0 ? 1 << p : 0;
            worst = o.bears[p] > (worst < 0 ? 0 : o.bears[worst]) ? p : worst;
        }
        due("quiet", x.quiet(), quiet);
        due("idle", x.idle(), idle);
        due("crowded", x.crowded(), crowded);
        due("kept", x.kept(), kept);
        due("worst", x.worst(), worst);
        due("last", x.last(), Arrays.stream(o.gives).max().orElse(-1));
        int k = 1 + random.nextInt(20);
        int when = (int) Arrays.stream(o.cut).filter(cut -> cut < k).count();
        due("when", x.when(k), when == model.nights ? -1 : when);
    }

    private void askWhatIf() {
        Model.Outcome now = model.year();
        for (int p = 0; p < model.persons.size(); p++) {
            int suits = 0;
            int least = Integer.MAX_VALUE;
            for (int from = 0; from < 12; from++) {
                Model.Change change = model.asTold();
                change.from[p] = from;
                int all = model.year(change).all;
                suits = all < least ? from : suits;
                least = Math.min(least, all);
            }
            due("suits", x.suits(p), suits);
            Model.Change change = model.asTold();
            change.from[p] = Model.NEVER;
            Model.Outcome o = model.year(change);
            due("without", x.without(p), o.all);
            int blocked = 0;
            for (int other = 0; other < model.persons.size(); other++) {
                blocked += other != p && o.bears[other] < now.bears[other] ? 1 << other : 0;
            }
            due("blocks", x.blocks(p), blocked);
        }
        int wide = -1;
        for (int room = 160; room > 0; room--) {
            Model.Change change = model.asTold();
            change.room = room;
            wide = model.year(change).all == 0 ? room : wide;
        }
        due("wide", x.wide(), wide);
        int n = random.nextInt(random.nextBoolean() ? 161 : 40);
        int mild = 0;
        for (int set = 0; set < 1 << model.persons.size(); set++) {
            int sum = 0;
            for (int p = 0; p < model.persons.size(); p++) {
                sum += model.persons.get(p)[0] * (set >> p & 1);
            }
            mild = sum <= n ? Math.max(mild, Integer.bitCount(set)) : mild;
        }
        due("mild " + n, x.mild(n), mild);
    }

    private void askGroans() {
        int best = 0;
        int proof = 0;
        int[] all = new int[4];
        for (int rule = 0; rule < 4; rule++) {
            int tempted = 0;
            Model.Change change = model.asTold();
            change.rule = rule;
            Model.Outcome honest = model.year(change);
            all[rule] = honest.all;
            for (int p = 0; p < model.persons.size(); p++) {
                int groan = -1;
                for (int more = 20; more > 0; more--) {
                    change = model.asTold();
                    change.rule = rule;
                    change.told[p] += more;
                    groan = model.year(change).bears[p] < honest.bears[p] ? more : groan;
                }
                tempted += groan < 0 ? 0 : 1 << p;
                if (rule == model.rule) {
                    due("groan", x.groan(p), groan);
                }
            }
            proof += tempted == 0 ? 1 << rule : 0;
            due("by", x.by(rule), all[rule]);
            due("tempts", x.tempts(rule), tempted);
            best = all[rule] < all[best] ? rule : best;
        }
        due("rule", x.rule(), best);
        due("proof", x.proof(), proof);
    }

    private void askPlans() {
        model.tryPlans(model.room);
        int least = model.leastBorne;
        due("least", x.least(), least);
        due("ways", x.ways(), model.plans);
        due("regret", x.regret(), model.year().all - least);
        for (int p = 0; p < model.persons.size(); p++) {
            due("plan", x.plan(p), model.firstPlan[p]);
        }
        int room = 1 + random.nextInt(random.nextBoolean() ? 160 : 20);
        model.tryPlans(room);
        int bound = model.leastBorne;
        int first = room;
        for (int smaller = room - 1; smaller > 0; smaller--) {
            model.tryPlans(smaller);
            if (model.leastBorne > bound) {
                break;
            }
            first = smaller;
        }
        due("room", x.room(bound), first);
        model.tryPlans(160);
        due("room for the least", x.room(model.leastBorne) > 0 ? 1 : 0, 1);
        due("no room", x.room(model.leastBorne - 1), model.leastBorne == 0 ? -2 : -1);
        due("least again", x.least(), least);
    }

    private void askBetween() {
        int everybody = (1 << model.persons.size()) - 1;
        model.tryBearers(0, 0, everybody);
        due("pairs", x.pairs(), model.mostPairs);
        int spoons = 0;
        int lonely = 0;
        for (int p = 0; p < model.persons.size(); p++) {
            due("bearer", x.bearer(p), model.firstBearers[p]);
            spoons |= model.firstBearers[p] < 0 ? 0 : 1 << model.firstBearers[p];
            lonely |= model.firstBearers[p] < 0 ? 1 << p : 0;
        }
        due("spoons", x.spoons(), spoons);
        due("lonely", x.lonely(), lonely);
        for (int n = 0; n < 2; n++) {
            int set = random.nextInt(everybody + 1);
            if (Integer.bitCount(set) < 6) {
                due("kinder " + set, x.kinder(set), model.kinder(set));
            }
        }
    }

    private void askSuspects() {
        for (int pairs = 0; pairs < 4; pairs++) {
            int[] row = new int[2 * pairs];
            int[] cut = model.year().cut;
            for (int i = 0; i < pairs; i++) {
                row[2 * i] = random.nextInt(model.nights);
                int off = random.nextInt(3) == 0 ? 1 : 0;
                row[2 * i + 1] = Math.max(0, cut[row[2 * i]] - off);
            }
            Checks.fill(x, 3, random.nextInt(4), Arrays.stream(row).asLongStream().toArray());
            List<int[]> suspects = model.suspects(row);
            where = " " + Arrays.toString(row);
            due("whose", x.whose(3), suspects.stream().mapToInt(s -> 1 << s[model.nights]).sum());
            due("fits", x.fits(3), suspects.size());
            int[] ask = model.ask(row);
            due("ask", x.ask(3), ask[0]);
            due("leaves", x.leaves(3), ask[1]);
            where = "";
        }
    }

    private void askCosts() {
        for (int n = 0; n < 6; n++) {
            int set = random.nextInt(1 << model.persons.size());
            due("nights " + set, x.nights(set), model.nights(set));
            due("costs " + set, x.costs(set), model.cost(set));
        }
    }

    private void askShares() {
        int n = model.persons.size();
        int cost = model.cost((1 << n) - 1);
        for (int kind = 0; kind < 4; kind++) {
            int[] row = new int[n];
            int rest = Math.max(0, cost);
            for (int p = 0; p < n; p++) {
                row[p] = kind == 0 ? random.nextInt(100) : p == n - 1 ? rest : Math.min(rest, model.pays * (p % 2));
                rest -= kind == 0 ? 0 : row[p];
            }
            Checks.fill(x, 0, 1 + random.nextInt(3), Arrays.stream(row).asLongStream().toArray());
            where = " " + Arrays.toString(row);
            due("fair", x.fair(0), row.length > 0 && row[n - 1] > 999 ? -2 : model.fair(row));
            due("leave", x.leave(0), model.leaver(row));
            where = "";
        }
    }

    private void askRests() {
        int n = model.persons.size();
        if (n < 2) {
            return;
        }
        int person = random.nextInt(n);
        int other = (person + 1 + random.nextInt(n - 1)) % n;
        int[][][] bears = new int[4][4][];
        for (int i = 0; i < 4; i++) {
            for (int k = 0; k < 4; k++) {
                Model.Change change = model.asTold();
                change.held[person] = i;
                change.held[other] = k;
                int[] borne = model.year(change).bears;
                bears[i][k] = new int[] {borne[person], borne[other]};
                due("holding", x.holding(person, other, i, k), borne[person]);
                due("holding, the other", x.holding(other, person, k, i), borne[other]);
            }
        }
        int rests = 0;
        int first = -1;
        for (int pair = 15; pair >= 0; pair--) {
            boolean rest = true;
            for (int another = 0; another < 4; another++) {
                rest &= bears[another][pair % 4][0] >= bears[pair / 4][pair % 4][0];
                rest &= bears[pair / 4][another][1] >= bears[pair / 4][pair % 4][1];
            }
            rests += rest ? 1 : 0;
            first = rest ? 10 * (pair / 4) + pair % 4 : first;
        }
        due("rests", x.rests(person, other), rests);
        due("rest", x.rest(person, other), first);
    }

    private void askChild() {
        for (int night = 0; night < model.nights; night++) {
            long[] born = model.born(night);
            due("born", x.born(night, 0), born[0]);
            due("born below", x.born(night, 1), born[1]);
            due("late", x.late(night), model.late(night));
        }
        long[] mean = model.mean();
        due("mean", x.mean(0), mean[0]);
        due("mean below", x.mean(1), mean[1]);
        int seed = random.nextInt(2_000_000_001);
        int night = model.drawn(seed);
        due("drawn", x.drawn(seed, 0), night);
        due("drawn all", x.drawn(seed, 1), model.late(night < 0 ? Model.NEVER : night));
        for (int p = 0; p < model.persons.size(); p++) {
            int years = 1 + random.nextInt(20);
            int lucky = 0;
            for (int year = 0; year < years; year++) {
                Model.Change change = model.asTold();
                int birth = model.drawn((long) seed + year);
                change.birth = birth < 0 ? Model.NEVER : birth;
                lucky += model.year(change).gives[p] < 0 ? 0 : 1;
            }
            due("luck", x.luck(seed, years, p), lucky);
        }
    }
}
