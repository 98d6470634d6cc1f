import java.util.Arrays;

/** Edges of PLANS, of who bears BETWEEN babies, KEPT BACK and COST: Terms IV, VI to VIII, promises 33 to 40, 46 to 55. */
final class PlanEdges {
    private static final String IN_TURN = Edges.head(8, 20, 40, 20, 0, 0, 0) + Edges.one(20, 0, 1, 0).repeat(8);
    /** Each COSTS 5, and both together. */
    private static final String TWO_WHO_PAY = Edges.head(1, 10, 1, 1, 0, 5, 0) + Edges.one(5, 0, 1, 0)
            + Edges.one(5, 11, 1, 0);

    private PlanEdges() {
    }

    static void all() {
        plans();
        least();
        plan();
        ways();
        room();
        between();
        pairs();
        bearer();
        kinder();
        keptBack();
        whose();
        numbersOfWhose();
        ask();
        costs();
        nights();
        fair();
        leave();
    }

    private static void due(String call, long got, long want) {
        Edges.due(call, got, want);
    }

    private static void planned(String text, int least, int ways, int... plan) {
        TeethingParish x = Edges.told(text);
        due("least() of " + text, x.least(), least);
        due("ways() of " + text, x.ways(), ways);
        for (int person = 0; person < plan.length; person++) {
            due("plan(" + person + ") of " + text, x.plan(person), plan[person]);
        }
    }

    private static void plans() {
        Edges.term("a NIGHT in which he GIVES (not ahead of his from), or none");
        planned(Edges.head(3, 9, 40, 20, 0, 0, 0) + Edges.one(5, 2, 1, 0), 0, 1, 2);
        planned(Edges.head(3, 9, 40, 20, 0, 0, 0) + Edges.one(5, 3, 1, 0), 0, 1, -1);
        planned(Edges.head(2, 5, 40, 20, 0, 0, 0) + Edges.one(5, 1, 1, 0).repeat(2), 5, 2, -1, 1);
        planned(Edges.head(3, 9, 40, 20, 0, 0, 0) + Edges.one(10, 1, 2, 0), 40, 1, -1);
        Edges.term("that of no NIGHT more than room is given, all together no more than tooth times teeth.");
        String sixAndFour = Edges.one(6, 0, 1, 0) + Edges.one(4, 0, 1, 0);
        planned(Edges.head(2, 10, 5, 2, 0, 0, 0) + sixAndFour, 0, 1, 0, 0);
        planned(Edges.head(2, 9, 5, 2, 0, 0, 0) + sixAndFour, 4, 1, 0, 1);
        planned(Edges.head(2, 6, 5, 2, 0, 0, 0) + sixAndFour, 4, 1, 0, 1);
        planned(Edges.head(2, 5, 5, 2, 0, 0, 0) + sixAndFour, 12, 1, -1, 0);
        planned(Edges.head(2, 10, 3, 3, 0, 0, 0) + sixAndFour, 8, 1, 0, -1);
        planned(Edges.head(2, 9, 3, 3, 0, 0, 0) + sixAndFour, 8, 1, 0, -1);
        planned(Edges.head(2, 9, 5, 1, 0, 0, 0) + sixAndFour, 12, 1, -1, 0);
        planned(Edges.head(2, 9, 1, 3, 0, 0, 0) + sixAndFour, 20, 1, -1, -1);
        planned(Edges.head(1, 60, 8, 20, 0, 0, 0) + Edges.one(20, 0, 1, 0).repeat(3), 0, 1, 0, 0, 0);
    }

    private static void least() {
        Edges.promise(33, "(below 0: less, as more than tooth times teeth may be given by II). -2: there is no PARISH.");
        Edges.refusedWithoutParish("regret()", TeethingParish::regret);
        due("less", Edges.told(Edges.A).regret(), -8);
        due("all the less", Edges.told(Edges.head(12, 60, 1, 1, 0, 0, 0) + Edges.one(20, 0, 9, 0)).regret(), -2160);
        due("just as much", Edges.told(IN_TURN).regret(), 0);
        due("of nobody", Edges.told(Edges.NO_PERSON).regret(), 0);
        due("more", Edges.told(Edges.head(2, 5, 9, 9, 0, 0, 0) + Edges.one(2, 0, 1, 0) + Edges.one(5, 0, 1, 0)).regret(), 3);
        Edges.promise(37, "-2 likewise.");
        Edges.refusedWithoutParish("least()", TeethingParish::least);
        due("of nobody", Edges.told(Edges.NO_PERSON).least(), 0);
        due("the most", Edges.told(Edges.MOST).least(), 17_280);
    }

    private static void plan() {
        Edges.promise(38, "(the least row by PERSONS, NONE first). NONE: none; -2: there is none such.");
        // One of three can GIVE: the last, as none is first for each ahead of him.
        planned(Edges.head(1, 5, 5, 1, 0, 0, 0) + Edges.one(5, 0, 1, 0).repeat(3), 10, 3, -1, -1, 0);
        planned(IN_TURN, 560, 40_320, 0, 1, 2, 3, 4, 5, 6, 7);
        // 2 bear as much as 1 of them dearer: ahead of him, NONE is first all the same.
        planned(Edges.head(1, 4, 4, 1, 0, 0, 0) + Edges.one(4, 0, 1, 0) + Edges.one(2, 0, 1, 0).repeat(2), 4, 2, -1, 0, 0);
        planned(Edges.head(1, 4, 4, 1, 0, 0, 0) + Edges.one(2, 0, 1, 0).repeat(2) + Edges.one(4, 0, 1, 0), 4, 2, -1, -1, 0);
        planned(Edges.head(1, 8, 40, 20, 0, 0, 0) + Edges.one(1, 0, 1, 0).repeat(8), 0, 1, 0, 0, 0, 0, 0, 0, 0, 0);
        due("in the last NIGHT", Edges.told(Edges.head(12, 1, 1, 1, 0, 0, 0) + Edges.one(1, 11, 1, 0)).plan(0), 11);
        due("in none", Edges.told(Edges.MOST).plan(7), -1);
        Edges.refusedWithoutPerson("plan", TeethingParish::plan);
    }

    private static void ways() {
        Edges.promise(39, "-2: there is no PARISH.");
        Edges.refusedWithoutParish("ways()", TeethingParish::ways);
        due("of nobody", Edges.told(Edges.NO_PERSON).ways(), 1);
        due("nobody can GIVE", Edges.told(Edges.MOST).ways(), 1);
        due("nobody ever has an ache", Edges.told(Edges.head(3, 9, 9, 9, 0, 0, 0) + Edges.one(1, 11, 1, 0).repeat(8)).ways(), 1);
        due("each order of eight", Edges.told(IN_TURN).ways(), 40_320);
    }

    private static void room() {
        Edges.promise(40, "The least room (1 .. 160) of all NIGHTS by which least() is m (0 .. 20,000) at most. NONE:"
                + " by none; -2: there is no such m, no PARISH.");
        TeethingParish x = Edges.told(Edges.MOST);
        int[][] due = {{0, 160}, {179, 160}, {180, 140}, {359, 140}, {17_279, 20}, {17_280, 1}, {20_000, 1}};
        for (int[] each : due) {
            due("room(" + each[0] + ")", x.room(each[0]), each[1]);
        }
        due("of nobody", Edges.told(Edges.NO_PERSON).room(0), 1);
        TeethingParish none = Edges.told(Edges.head(1, 60, 1, 1, 0, 0, 0) + Edges.one(2, 0, 1, 0));
        due("two are always BORNE", none.room(1), -1);
        due("two are BORNE by any", none.room(2), 1);
        for (int m : new int[] {0, 180, 17_280}) {
            x.room(m);
            due("least() behind room(" + m + ")", x.least(), 17_280);
            due("ways() behind room(" + m + ")", x.ways(), 1);
            due("plan(0) behind room(" + m + ")", x.plan(0), -1);
        }
        due("less is told than needed", Edges.told(IN_TURN).room(0), 160);
        due("more is told than needed", Edges.told(Edges.head(1, 60, 9, 9, 0, 0, 0) + Edges.one(2, 0, 1, 0)).room(0), 2);
        Edges.refusedOutside("room", x, TeethingParish::room, 0, 20_000);
        Edges.refusedWithoutParish("room(0)", y -> y.room(0));
    }

    // BETWEEN.

    private static void between() {
        Edges.term("a PERSON can bear for another one whose ache is no more than what he bears; each for one at most,"
                + " each by one at most.");
        String head = Edges.head(1, 1, 1, 1, 0, 0, 0);
        due("just as much", Edges.told(head + Edges.one(5, 0, 1, 0) + Edges.one(20, 0, 1, 5)).pairs(), 1);
        due("one less", Edges.told(head + Edges.one(5, 0, 1, 0) + Edges.one(20, 0, 1, 4)).pairs(), 0);
        due("not for himself", Edges.told(head + Edges.one(5, 0, 1, 20)).pairs(), 0);
        due("each for the other", Edges.told(head + Edges.one(20, 0, 1, 20).repeat(2)).pairs(), 2);
        due("for one of two", Edges.told(head + Edges.one(5, 0, 1, 0).repeat(2) + Edges.one(20, 0, 1, 5)).pairs(), 1);
        due("by one of two", Edges.told(head + Edges.one(5, 0, 1, 0) + Edges.one(20, 0, 1, 19).repeat(2)).pairs(), 1);
    }

    private static void pairs() {
        String all = Edges.MOST;
        String none = Edges.MOST.replace("bears 20", "bears 19");
        String nobody = Edges.NO_PERSON;
        String alone = Edges.NO_PERSON + Edges.one(1, 0, 1, 20);
        Edges.promise(34, "-2 likewise.");
        Edges.refusedWithoutParish("spoons()", TeethingParish::spoons);
        due("spoons() of all", Edges.told(all).spoons(), 255);
        due("spoons() of none", Edges.told(none).spoons(), 0);
        due("spoons() of nobody", Edges.told(nobody).spoons(), 0);
        due("spoons() of one", Edges.told(alone).spoons(), 0);
        Edges.promise(35, "-2 likewise.");
        Edges.refusedWithoutParish("lonely()", TeethingParish::lonely);
        due("lonely() of all", Edges.told(all).lonely(), 0);
        due("lonely() of none", Edges.told(none).lonely(), 255);
        due("lonely() of nobody", Edges.told(nobody).lonely(), 0);
        due("lonely() of one", Edges.told(alone).lonely(), 1);
        Edges.promise(46, "-2: there is no PARISH.");
        Edges.refusedWithoutParish("pairs()", TeethingParish::pairs);
        due("pairs() of all", Edges.told(all).pairs(), 8);
        due("pairs() of none", Edges.told(none).pairs(), 0);
        due("pairs() of nobody", Edges.told(nobody).pairs(), 0);
        due("pairs() of one", Edges.told(alone).pairs(), 0);
    }

    private static void bearer() {
        Edges.promise(47, "(PERSON by PERSON the least who still allows it, NONE last). NONE: nobody; -2: there is"
                + " none such.");
        String head = Edges.head(1, 1, 1, 1, 0, 0, 0);
        // 1 could bear for 0, but he alone can bear for 2.
        bearers(head + Edges.one(5, 0, 1, 0) + Edges.one(20, 0, 1, 10) + Edges.one(10, 0, 1, 5), 2, -1, 1);
        // Either can bear for 0: the least.
        bearers(head + Edges.one(5, 0, 1, 0) + Edges.one(20, 0, 1, 5) + Edges.one(20, 0, 1, 5), 1, -1, -1);
        // One can bear for either: NONE comes last for the first.
        bearers(head + Edges.one(5, 0, 1, 0).repeat(2) + Edges.one(9, 0, 1, 5), 2, -1, -1);
        bearers(head + Edges.one(20, 0, 1, 20).repeat(8), 1, 0, 3, 2, 5, 4, 7, 6);
        bearers(head + Edges.one(20, 0, 1, 20).repeat(3), 1, 2, 0);
        bearers(head + Edges.one(1, 0, 1, 20), -1);
        Edges.refusedWithoutPerson("bearer", TeethingParish::bearer);
    }

    private static void bearers(String text, int... due) {
        TeethingParish x = Edges.told(text);
        for (int person = 0; person < due.length; person++) {
            due("bearer(" + person + ") of " + text, x.bearer(person), due[person]);
        }
    }

    private static void kinder() {
        Edges.promise(48, "The least (0 .. 20) by which each PERSON of a set (bits; nobody else) must bear more so"
                + " that for each of the set another PERSON (of it or not) can bear (VI).");
        String head = Edges.head(1, 1, 1, 1, 0, 0, 0);
        TeethingParish two = Edges.told(head + Edges.one(20, 0, 1, 0).repeat(2));
        due("the empty set", two.kinder(0), 0);
        due("both", two.kinder(3), 20);
        due("who is not of the set bears no more", two.kinder(1), -1);
        TeethingParish enough = Edges.told(head + Edges.one(5, 0, 1, 0) + Edges.one(20, 0, 1, 5));
        due("one who is not of the set bears enough", enough.kinder(1), 0);
        due("for the other one 20 more are needed", enough.kinder(3), 20);
        due("one who is not of the set bears for one of two", Edges.told(head + Edges.one(5, 0, 1, 0).repeat(2)
                + Edges.one(20, 0, 1, 5)).kinder(3), 5);
        due("all of eight need none", Edges.told(Edges.MOST).kinder(255), 0);
        due("all of eight need one", Edges.told(Edges.MOST.replace("bears 20", "bears 19")).kinder(255), 1);
        due("two of three, each for the other", Edges.told(head + Edges.one(5, 0, 1, 4).repeat(3)).kinder(3), 1);
        Edges.promise(48, "NONE: by none; -2: there is no such set, no PARISH.");
        due("he alone", Edges.told(head + Edges.one(1, 0, 1, 20)).kinder(1), -1);
        due("the other one alone", two.kinder(2), -1);
        Edges.refusedWithoutSet("kinder", TeethingParish::kinder);
    }

    // KEPT BACK.

    /** Asks each call of an object of its own, as no call may rest on what another one found. */
    private static void asked(String text, int slot, int width, long[] row, int... due) {
        String[] calls = {"whose", "fits", "ask", "leaves"};
        for (int call = 0; call < calls.length; call++) {
            TeethingParish x = Edges.told(text);
            Checks.fill(x, slot, width, row);
            int got = switch (call) {
                case 0 -> x.whose(slot);
                case 1 -> x.fits(slot);
                case 2 -> x.ask(slot);
                default -> x.leaves(slot);
            };
            due(calls[call] + " of " + Arrays.toString(row) + ", WIDTH " + width, got, due[call]);
        }
    }

    private static long[] row(long... numbers) {
        return numbers;
    }

    private static void keptBack() {
        Edges.term("KEPT BACK: a PERSON whose ache never came (or nobody).");
        asked(Edges.A, 0, 0, row(), 31 + 256, 6, 1, 3);
        asked(Edges.A, 0, 0, row(1, 1), 1 + 2 + 4, 3, 3, 2);
        asked(Edges.A, 1, 1, row(1, 2), 8 + 16 + 256, 3, -1, 3);
        asked(Edges.A, 2, 2, row(4, 2, 1, 1), 4, 1, -1, 1);
        asked(Edges.A, 2, 2, row(0, 0, 4, 2), 4 + 8 + 16 + 256, 4, 1, 3);
        asked(Edges.A, 3, 3, row(1, 0), 0, 0, -1, 0);
        asked(Edges.A, 3, 3, row(1, 1, 1, 2), 0, 0, -1, 0);
        asked(Edges.NO_PERSON, 0, 0, row(), 256, 1, -1, 1);
        asked(Edges.MOST, 3, 3, new long[60], 511, 9, -1, 9);
        String lastNight = Edges.head(12, 20, 20, 1, 0, 0, 0) + Edges.one(20, 11, 1, 0);
        asked(lastNight, 0, 0, row(), 257, 2, 11, 1);
        asked(lastNight, 0, 0, row(10, 0), 257, 2, 11, 1);
        asked(lastNight, 0, 0, row(11, 1), 256, 1, -1, 1);
    }

    private static void whose() {
        Edges.promise(49, "-2: there is no such SLOT, no PARISH, a number is none such (TEETH 0 .. 20; asked last),"
                + " not two each; -6: it has nothing.");
        refusedLikeWhose("whose", TeethingParish::whose);
        Edges.promise(49, "(256: by nobody, too)");
        String twenty = Edges.head(1, 20, 1, 20, 0, 0, 0) + Edges.one(20, 0, 1, 0);
        asked(twenty, 0, 0, row(0, 20), 256, 1, -1, 1);
        asked(twenty, 0, 0, row(0, 0), 1, 1, -1, 1);
        asked(twenty, 0, 0, row(), 257, 2, 0, 1);
        Edges.promise(50, "(nobody, too). -2, -6 likewise.");
        asked(twenty, 0, 3, row(), 257, 2, 0, 1);
        refusedLikeWhose("fits", TeethingParish::fits);
        Edges.promise(51, "NONE: none; -2, -6 likewise.");
        refusedLikeWhose("ask", TeethingParish::ask);
        Edges.promise(52, "-2, -6 likewise.");
        refusedLikeWhose("leaves", TeethingParish::leaves);
    }

    private static void refusedLikeWhose(String call, Edges.AskedOfOne asked) {
        Edges.refusedWithoutSlot(call, asked);
        TeethingParish x = Edges.told(Edges.A);
        TeethingParish none = new TeethingParish();
        for (int slot = 0; slot < 4; slot++) {
            due(call + "(" + slot + ") of nothing", asked.of(x, slot), -6);
            Checks.fill(none, slot, 0, 0, 0);
            due(call + "(" + slot + ") of a good row without PARISH", asked.of(none, slot), -2);
            Checks.fill(x, slot, 0, 0, 0);
            due(call + "(" + slot + ") is asked for", asked.of(x, slot) >= -1 ? 1 : 0, 1);
        }
        long[][] wrong = {{0}, {0, 0, 0}, new long[59], {-1, 0}, {5, 0}, {0, -1}, {0, 21}, {0, 0, 5, 0}, {0, 0, 0, 21},
            {0, 0, -1, 0}, {5, 21}, {127, 127}, {-128, -128}, {9, 9, 9}};
        for (long[] each : wrong) {
            Checks.fill(x, 2, 0, each);
            due(call + " of " + Arrays.toString(each), asked.of(x, 2), -2);
        }
        Checks.fill(x, 2, 3, 1L << 32, 0);
        due(call + " of NIGHT 4,294,967,296", asked.of(x, 2), -2);
        Checks.fill(x, 2, 3, 0, 1L << 32);
        due(call + " of 4,294,967,296 TEETH", asked.of(x, 2), -2);
        Checks.fill(x, 2, 3, 0, Long.MIN_VALUE);
        due(call + " of fewest TEETH", asked.of(x, 2), -2);
    }

    private static void numbersOfWhose() {
        Edges.promise(49, "(TEETH 0 .. 20; asked last)");
        for (int width = 0; width < 4; width++) {
            asked(Edges.A, 0, width, row(4, 20, 0, 0), 0, 0, -1, 0);
        }
    }

    private static void ask() {
        Edges.promise(51, "leaves fewest of these at worst, if fewer than now, the first of several.");
        TeethingParish x = Edges.told(Edges.A);
        Checks.fill(x, 0, 0, 1, 1);
        due("NIGHTS 3 and 4 leave as few", x.ask(0), 3);
        Checks.fill(x, 0, 0);
        due("NIGHT 3 leaves 4, NIGHTS 1 and 2 leave 3", x.ask(0), 1);
        Checks.fill(x, 0, 0, 1, 2);
        due("no NIGHT leaves fewer", x.ask(0), -1);
        Edges.promise(52, "How many it leaves at worst (as now without).");
        due("as now", x.leaves(0), 3);
        Checks.fill(x, 0, 0, 1, 1);
        due("two of three", x.leaves(0), 2);
        Checks.fill(x, 0, 0, 1, 0);
        due("none", x.leaves(0), 0);
    }

    // COST.

    private static void costs() {
        Edges.term("pays, times the fewest NIGHTS of room in which their aches fit, whole, whenever they came.");
        due("5 and 5, one of them never, in 10", Edges.told(TWO_WHO_PAY).costs(3), 5);
        String three = Edges.one(6, 0, 1, 0).repeat(3);
        due("6, 6 and 6 in 9", Edges.told(Edges.head(1, 9, 1, 1, 0, 7, 0) + three).costs(7), 21);
        due("6, 6 and 6 in 11", Edges.told(Edges.head(1, 11, 1, 1, 0, 7, 0) + three).costs(7), 21);
        due("6, 6 and 6 in 12", Edges.told(Edges.head(1, 12, 1, 1, 0, 7, 0) + three).costs(7), 14);
        Edges.promise(36, "NONE: an ache is greater than the room; -2: there is no such set, no PARISH.");
        Edges.refusedWithoutSet("costs", TeethingParish::costs);
        TeethingParish x = Edges.told(Edges.head(12, 19, 40, 20, 0, 99, 0) + Edges.one(19, 0, 1, 0).repeat(7)
                + Edges.one(20, 0, 1, 0));
        due("the empty set", x.costs(0), 0);
        due("seven as great as the room", x.costs(127), 693);
        due("one greater", x.costs(128), -1);
        due("one greater with others", x.costs(255), -1);
        due("one greater with one", x.costs(129), -1);
        x.widen(20);
        due("as great", x.costs(255), 792);
        due("for no pays", Edges.told(IN_TURN).costs(255), 0);
    }

    private static void nights() {
        Edges.promise(53, "NONE: an ache is greater than the room; -2: there is no such set, no PARISH.");
        Edges.refusedWithoutSet("nights", TeethingParish::nights);
        TeethingParish x = Edges.told(Edges.head(1, 19, 40, 20, 0, 0, 0) + Edges.one(19, 0, 1, 0).repeat(7)
                + Edges.one(20, 0, 1, 0));
        due("the empty set", x.nights(0), 0);
        due("one as great as the room", x.nights(64), 1);
        due("seven as great as the room", x.nights(127), 7);
        due("one greater", x.nights(128), -1);
        due("one greater with others", x.nights(255), -1);
        x.widen(20);
        due("as great", x.nights(255), 8);
        x.widen(60);
        due("three in each NIGHT", x.nights(255), 3);
        due("three in a NIGHT", x.nights(7), 1);
        due("four", x.nights(15), 2);
    }

    private static void shares(String text, int fair, int leave, long... row) {
        for (int width = 1; width < 4; width++) {
            TeethingParish x = Edges.told(text);
            Checks.fill(x, width, width, row);
            String numbers = Arrays.toString(row);
            due("fair() of " + numbers, x.fair(width), fair);
            TeethingParish y = Edges.told(text);
            Checks.fill(y, width, width, row);
            due("leave() of " + numbers, y.leave(width), leave);
        }
    }

    private static void fair() {
        Edges.promise(54, "1 if a SLOT's row (PERSON by PERSON what he pays, 0 .. 999) pays just COST of all, and no"
                + " set pays more than its COST (one without COST: any), else 0 (also if all have no COST).");
        String x = TWO_WHO_PAY;
        shares(x, 1, -1, 2, 3);
        shares(x, 1, -1, 5, 0);
        shares(x, 1, -1, 0, 5);
        shares(x, 0, -1, 2, 2);
        shares(x, 0, -1, 0, 0);
        shares(x, 0, 3, 3, 3);
        shares(x, 0, 1, 6, 0);
        shares(x, 0, 2, 0, 6);
        shares(x, 0, 1, 999, 999);
        String without = TWO_WHO_PAY.replace("room 10", "room 4");
        shares(without, 0, -1, 999, 999);
        shares(without, 0, -1, 0, 0);
        String one = without.replace("ache 5 from 11", "ache 4 from 11");
        shares(one, 0, -1, 999, 5);
        shares(one, 0, 2, 999, 6);
        shares(Edges.NO_PERSON, 1, -1);
        shares(IN_TURN, 1, -1, new long[8]);
        // Two of three COST 5 and all 10: all pay just that, but two of them too much.
        String three = Edges.head(1, 10, 1, 1, 0, 5, 0) + Edges.one(5, 0, 1, 0).repeat(3);
        shares(three, 0, 3, 3, 3, 4);
        shares(three, 0, 6, 0, 5, 5);
    }

    private static void leave() {
        String refused = "-2: there is no such SLOT, no PARISH, a number is none such (asked last), not as many as PERSONS; -6: it has"
                + " nothing.";
        Edges.promise(54, refused);
        refusedLikeFair("fair", TeethingParish::fair);
        Edges.promise(55, "NONE: none; -2, -6 likewise.");
        refusedLikeFair("leave", TeethingParish::leave);
        Edges.promise(55, "The least set that pays more than its COST.");
        shares(TWO_WHO_PAY, 0, 1, 6, 6);
        shares(TWO_WHO_PAY, 0, 2, 5, 6);
        shares(TWO_WHO_PAY, 0, 3, 5, 1);
        shares(TWO_WHO_PAY, 1, -1, 4, 1);
        shares(IN_TURN, 0, 128, 0, 0, 0, 0, 0, 0, 0, 1);
    }

    private static void refusedLikeFair(String call, Edges.AskedOfOne asked) {
        Edges.refusedWithoutSlot(call, asked);
        TeethingParish x = Edges.told(TWO_WHO_PAY);
        TeethingParish none = new TeethingParish();
        for (int slot = 0; slot < 4; slot++) {
            due(call + "(" + slot + ") of nothing", asked.of(x, slot), -6);
            Checks.fill(none, slot, 0, 0, 0);
            due(call + "(" + slot + ") of a good row without PARISH", asked.of(none, slot), -2);
            Checks.fill(none, slot, 0);
            due(call + "(" + slot + ") of an empty row without PARISH", asked.of(none, slot), -2);
            Checks.fill(x, slot, 0, 0, 0);
            due(call + "(" + slot + ") is asked for", asked.of(x, slot) >= -1 ? 1 : 0, 1);
        }
        long[][] wrong = {{}, {0}, {0, 0, 0}, new long[60], {-1, 0}, {0, -1}, {1000, 0}, {0, 1000}, {1L << 32, 0},
            {0, Long.MIN_VALUE}, {Long.MAX_VALUE, 0}};
        for (long[] each : wrong) {
            Checks.fill(x, 2, 3, each);
            due(call + " of " + Arrays.toString(each), asked.of(x, 2), -2);
        }
        Checks.fill(x, 2, 3, 999, 999);
        due(call + " of 999 is asked for", asked.of(x, 2) >= -1 ? 1 : 0, 1);
    }
}
