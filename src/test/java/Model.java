import java.math.BigInteger;
import java.util.ArrayList;
import java.util.Comparator;
import java.util.List;
import java.util.Random;
import java.util.TreeMap;

/** The document once more, in the slowest and plainest way: every plan, every way and every set is tried. */
final class Model {
    static final int NEVER = 1000;

    int nights;
    int room;
    int tooth;
    int teeth;
    int rule;
    int pays;
    int odds;
    /** ache, from, dear, bears. */
    List<int[]> persons = new ArrayList<>();

    /** What came of a year. */
    static final class Outcome {
        int[] gives;
        int[] bears;
        int[] given;
        int[] waits;
        int[] left;
        int[] groans;
        int[] holds;
        int[] cut;
        int all;
        int feast = -1;
    }

    /** What is other than told in a year. */
    static final class Change {
        int room;
        int rule;
        int birth;
        int[] told;
        int[] from;
        int[] held;
    }

    /** Another PARISH by chance: small ones, some of many PERSONS and some of many NIGHTS, as every plan is tried. */
    void invent(Random random) {
        boolean manyPersons = random.nextInt(3) == 0;
        boolean manyNights = !manyPersons && random.nextInt(3) == 0;
        nights = manyPersons ? 1 + random.nextInt(3) : manyNights ? 8 + random.nextInt(5) : 1 + random.nextInt(6);
        int count = manyPersons ? 6 + random.nextInt(3) : manyNights ? random.nextInt(5) : random.nextInt(6);
        int most = random.nextInt(3) == 0 ? 20 : 8;
        room = 1 + random.nextInt(random.nextBoolean() ? 60 : 12);
        tooth = 1 + random.nextInt(random.nextBoolean() ? 40 : 10);
        teeth = 1 + random.nextInt(random.nextBoolean() ? 20 : 4);
        rule = random.nextInt(4);
        pays = random.nextInt(100);
        odds = random.nextInt(11);
        persons.clear();
        for (int p = 0; p < count; p++) {
            int from = random.nextInt(6) == 0 ? random.nextInt(12) : random.nextInt(nights);
            int dear = 1 + random.nextInt(random.nextBoolean() ? 9 : 2);
            persons.add(new int[] {1 + random.nextInt(most), from, dear, random.nextInt(most + 1)});
        }
    }

    String text() {
        StringBuilder text = new StringBuilder();
        text.append("parish nights ").append(nights).append(" room ").append(room).append(" tooth ").append(tooth);
        text.append(" teeth ").append(teeth).append(" rule ").append(rule).append(" pays ").append(pays);
        text.append(" odds ").append(odds).append(";\n");
        for (int[] p : persons) {
            text.append("person ache ").append(p[0]).append(" from ").append(p[1]).append(" dear ").append(p[2]);
            text.append(" bears ").append(p[3]).append(";\n");
        }
        return text.toString();
    }

    Change asTold() {
        Change change = new Change();
        change.room = room;
        change.rule = rule;
        change.told = persons.stream().mapToInt(p -> p[0]).toArray();
        change.from = persons.stream().mapToInt(p -> p[1]).toArray();
        change.held = new int[persons.size()];
        return change;
    }

    Outcome year() {
        return year(asTold());
    }

    Outcome year(Change change) {
        Outcome o = new Outcome();
        int n = persons.size();
        o.gives = new int[n];
        java.util.Arrays.fill(o.gives, -1);
        o.bears = new int[n];
        o.given = new int[nights];
        o.waits = new int[nights];
        o.left = new int[nights];
        o.groans = new int[nights];
        o.holds = new int[nights];
        o.cut = new int[nights];
        int held = 0;
        int cut = 0;
        for (int night = 0; night < nights; night++) {
            List<Integer> having = new ArrayList<>();
            for (int p = 0; p < n; p++) {
                if (change.from[p] <= night && o.gives[p] < 0) {
                    having.add(p);
                }
            }
            having.sort(order(change));
            int left = change.room;
            for (int p : having) {
                boolean may = night >= change.birth && cut < teeth && night - change.from[p] >= change.held[p];
                if (may && persons.get(p)[0] <= left) {
                    o.gives[p] = night;
                    left -= persons.get(p)[0];
                    held += persons.get(p)[0];
                    o.given[night] += 1 << p;
                } else {
                    o.waits[night] += 1 << p;
                    o.bears[p] += persons.get(p)[0] * persons.get(p)[2];
                    o.groans[night] += persons.get(p)[0] * persons.get(p)[2];
                    o.all += persons.get(p)[0] * persons.get(p)[2];
                }
            }
            while (held >= tooth && cut < teeth) {
                held -= tooth;
                cut++;
                if (cut == teeth) {
                    o.feast = night;
                }
            }
            o.left[night] = left;
            o.holds[night] = held;
            o.cut[night] = cut;
        }
        return o;
    }

    private static Comparator<Integer> order(Change change) {
        Comparator<Integer> byNumber = Comparator.naturalOrder();
        return switch (change.rule) {
            case 1 -> Comparator.comparing((Integer p) -> change.told[p]).reversed().thenComparing(byNumber);
            case 2 -> Comparator.comparing((Integer p) -> change.told[p]).thenComparing(byNumber);
            case 3 -> Comparator.comparing((Integer p) -> change.from[p]).thenComparing(byNumber);
            default -> byNumber;
        };
    }

    // PLANS

    int leastBorne;
    long plans;
    int[] firstPlan;

    void tryPlans(int room) {
        leastBorne = Integer.MAX_VALUE;
        plans = 0;
        tryPlans(room, new int[persons.size()], 0, new int[nights], 0, 0);
    }

    private void tryPlans(int room, int[] plan, int p, int[] used, int sum, int borne) {
        if (p == persons.size()) {
            if (borne < leastBorne) {
                leastBorne = borne;
                plans = 0;
                firstPlan = plan.clone();
            }
            plans += borne == leastBorne ? 1 : 0;
            return;
        }
        int ache = persons.get(p)[0];
        int from = persons.get(p)[1];
        int dear = persons.get(p)[2];
        plan[p] = -1;
        tryPlans(room, plan, p + 1, used, sum, borne + ache * dear * Math.max(0, nights - from));
        for (int night = from; night < nights; night++) {
            if (used[night] + ache <= room && sum + ache <= tooth * teeth) {
                used[night] += ache;
                plan[p] = night;
                tryPlans(room, plan, p + 1, used, sum + ache, borne + ache * dear * (night - from));
                used[night] -= ache;
            }
        }
    }

    // BETWEEN

    int mostPairs;
    int[] firstBearers;

    void tryBearers(int set, int more, int only) {
        mostPairs = -1;
        tryBearers(set, more, only, new int[persons.size()], 0, 0);
    }

    /** PERSONS outside of only are borne for by nobody; those of set bear more. */
    private void tryBearers(int set, int more, int only, int[] bearers, int used, int p) {
        if (p == persons.size()) {
            int pairs = Integer.bitCount(used);
            if (pairs > mostPairs) {
                mostPairs = pairs;
                firstBearers = bearers.clone();
            }
            return;
        }
        for (int who = 0; who < persons.size() && (only >> p & 1) == 1; who++) {
            int bears = persons.get(who)[3] + more * (set >> who & 1);
            if (who != p && (used >> who & 1) == 0 && persons.get(p)[0] <= bears) {
                bearers[p] = who;
                tryBearers(set, more, only, bearers, used | 1 << who, p + 1);
            }
        }
        bearers[p] = -1;
        tryBearers(set, more, only, bearers, used, p + 1);
    }

    int kinder(int set) {
        for (int more = 0; more <= 20; more++) {
            tryBearers(set, more, set);
            if (mostPairs == Integer.bitCount(set)) {
                return more;
            }
        }
        return -1;
    }

    // COST

    int nights(int set) {
        for (int p = 0; p < persons.size(); p++) {
            if ((set >> p & 1) == 1 && persons.get(p)[0] > room) {
                return -1;
            }
        }
        for (int bins = 0; ; bins++) {
            if (fit(set, 0, new int[bins])) {
                return bins;
            }
        }
    }

    private boolean fit(int set, int p, int[] bins) {
        if (p == persons.size()) {
            return true;
        }
        if ((set >> p & 1) == 0) {
            return fit(set, p + 1, bins);
        }
        for (int bin = 0; bin < bins.length; bin++) {
            if (bins[bin] + persons.get(p)[0] <= room) {
                bins[bin] += persons.get(p)[0];
                boolean fits = fit(set, p + 1, bins);
                bins[bin] -= persons.get(p)[0];
                if (fits) {
                    return true;
                }
            }
        }
        return false;
    }

    int cost(int set) {
        int bins = nights(set);
        return bins < 0 ? -1 : bins * pays;
    }

    static int paid(int[] row, int set) {
        int paid = 0;
        for (int p = 0; p < row.length; p++) {
            paid += row[p] * (set >> p & 1);
        }
        return paid;
    }

    int leaver(int[] row) {
        for (int set = 0; set < 1 << persons.size(); set++) {
            if (cost(set) >= 0 && paid(row, set) > cost(set)) {
                return set;
            }
        }
        return -1;
    }

    int fair(int[] row) {
        int everybody = (1 << persons.size()) - 1;
        return cost(everybody) >= 0 && paid(row, everybody) == cost(everybody) && leaver(row) < 0 ? 1 : 0;
    }

    // KEPT BACK

    List<int[]> suspects(int[] row) {
        List<int[]> suspects = new ArrayList<>();
        for (int who = 0; who <= persons.size(); who++) {
            Change change = asTold();
            if (who < persons.size()) {
                change.from[who] = NEVER;
            }
            int[] cut = year(change).cut;
            boolean so = true;
            for (int i = 0; i < row.length; i += 2) {
                so &= cut[row[i]] == row[i + 1];
            }
            if (so) {
                int[] suspect = java.util.Arrays.copyOf(cut, nights + 1);
                suspect[nights] = who < persons.size() ? who : 8;
                suspects.add(suspect);
            }
        }
        return suspects;
    }

    /** The best NIGHT to ask for, and how many it leaves. */
    int[] ask(int[] row) {
        List<int[]> suspects = suspects(row);
        int[] best = {-1, suspects.size()};
        for (int night = 0; night < nights; night++) {
            TreeMap<Integer, Integer> groups = new TreeMap<>();
            for (int[] suspect : suspects) {
                groups.merge(suspect[night], 1, Integer::sum);
            }
            int worst = groups.values().stream().mapToInt(i -> i).max().orElse(0);
            if (worst < best[1]) {
                best = new int[] {night, worst};
            }
        }
        return best;
    }

    // CHILD

    int late(int birth) {
        Change change = asTold();
        change.birth = birth;
        return year(change).all;
    }

    /** A fraction in lowest terms. */
    static long[] lowest(BigInteger above, BigInteger below) {
        BigInteger divisor = above.gcd(below);
        return new long[] {above.divide(divisor).longValueExact(), below.divide(divisor).longValueExact()};
    }

    long[] born(int night) {
        BigInteger ten = BigInteger.TEN.pow(night + 1);
        return lowest(ten.subtract(BigInteger.valueOf(10 - odds).pow(night + 1)), ten);
    }

    long[] mean() {
        BigInteger sum = BigInteger.valueOf(10 - odds).pow(nights).multiply(BigInteger.valueOf(late(NEVER)));
        for (int night = 0; night < nights; night++) {
            BigInteger chance = BigInteger.valueOf(10 - odds).pow(night).multiply(BigInteger.valueOf(odds));
            BigInteger years = BigInteger.TEN.pow(nights - 1 - night);
            sum = sum.add(chance.multiply(years).multiply(BigInteger.valueOf(late(night))));
        }
        return lowest(sum, BigInteger.TEN.pow(nights));
    }

    int drawn(long seed) {
        BigInteger x = BigInteger.valueOf(seed);
        for (int night = 0; night < nights; night++) {
            x = x.multiply(BigInteger.valueOf(1103515245)).add(BigInteger.valueOf(12345));
            x = x.mod(BigInteger.valueOf(2147483648L));
            if (x.divide(BigInteger.valueOf(65536)).mod(BigInteger.TEN).intValue() < odds) {
                return night;
            }
        }
        return -1;
    }
}
