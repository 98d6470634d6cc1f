/** Edges of the year as it is: Terms II and III, promises 7 to 23, 25, 26, 29 and 30. */
final class YearEdges {
    /** One ache for each NIGHT's room. */
    private static final String IN_TURN = Edges.head(8, 20, 40, 20, 0, 0, 0) + Edges.one(20, 0, 1, 0).repeat(8);
    private static final String NOBODY_BEARS = Edges.head(12, 60, 40, 20, 0, 0, 0) + Edges.one(1, 11, 9, 0);

    private YearEdges() {
    }

    static void all() {
        aches();
        rules();
        teeth();
        gives();
        nightsOfAll();
        borne();
        worst();
        crowded();
        held();
        bits();
        big();
        lastAndGap();
        when();
        share();
    }

    private static void due(String call, long got, long want) {
        Edges.due(call, got, want);
    }

    // Terms II and III.

    private static void aches() {
        Edges.term("A PERSON has his ache in NIGHTS from his from on (beyond the last NIGHT: never), till he GIVES it.");
        TeethingParish x = Edges.told(Edges.head(3, 10, 40, 20, 0, 0, 0) + Edges.one(11, 2, 1, 0) + Edges.one(11, 3, 1, 0)
                + Edges.one(11, 11, 1, 0) + Edges.one(10, 2, 1, 0) + Edges.one(1, 3, 1, 0));
        due("waits(1)", x.waits(1), 0);
        due("waits(2)", x.waits(2), 1);
        due("BEARS in the last NIGHT", x.bears(0), 11);
        due("BEARS never", x.bears(1), 0);
        due("BEARS never", x.bears(2), 0);
        due("GIVES in the last NIGHT", x.gives(3), 2);
        due("never GIVES", x.gives(4), -1);
        due("given(2)", x.given(2), 8);
        Edges.term("One after the other each GIVES his whole ache, if it is no more than what is left of that NIGHT's"
                + " room;");
        due("left of a full NIGHT", x.left(2), 0);
        String head = Edges.head(1, 10, 40, 20, 0, 0, 0);
        due("6 and 4 in 10", Edges.told(head + Edges.one(6, 0, 1, 0) + Edges.one(4, 0, 1, 0)).given(0), 3);
        due("6 and 5 in 10", Edges.told(head + Edges.one(6, 0, 1, 0) + Edges.one(5, 0, 1, 0)).given(0), 1);
        due("11, 6, 5 and 4 in 10", Edges.told(head + Edges.one(11, 0, 1, 0) + Edges.one(6, 0, 1, 0)
                + Edges.one(5, 0, 1, 0) + Edges.one(4, 0, 1, 0)).given(0), 2 + 8);
        Edges.term("he has none from this NIGHT on. Who has one and does not GIVE it BEARS in that NIGHT his ache"
                + " times dear.");
        TeethingParish two = Edges.told(Edges.head(4, 5, 40, 20, 0, 0, 0) + Edges.one(5, 0, 9, 0) + Edges.one(5, 0, 2, 0));
        due("BEARS nothing", two.bears(0), 0);
        due("BEARS one NIGHT", two.bears(1), 10);
        due("in NIGHT 0", two.groans(0), 10);
        due("in NIGHT 1", two.groans(1), 0);
        due("waits(1)", two.waits(1), 0);
    }

    private static void rules() {
        Edges.term("Of like ones the least number.");
        for (int rule = 0; rule < 4; rule++) {
            TeethingParish x = Edges.told(Edges.head(8, 20, 40, 20, rule, 0, 0) + Edges.one(20, 0, 1, 0).repeat(8));
            for (int person = 0; person < 8; person++) {
                due("gives(" + person + ") by RULE " + rule, x.gives(person), person);
            }
        }
        Edges.term("0: by numbers; 1: the greatest ache first; 2: the least first; 3: who has had his longest first"
                + " (by from).");
        // Room for one each NIGHT, and all have their aches from NIGHT 1 on.
        int[][] nights = {{1, 2, 3}, {1, 3, 2}, {3, 1, 2}, {1, 2, 3}};
        for (int rule = 0; rule < 4; rule++) {
            TeethingParish x = Edges.told(Edges.head(5, 9, 40, 20, rule, 0, 0) + Edges.one(7, 1, 1, 0)
                    + Edges.one(5, 1, 1, 0) + Edges.one(6, 1, 1, 0));
            for (int person = 0; person < 3; person++) {
                due("gives(" + person + ") by RULE " + rule, x.gives(person), nights[rule][person]);
            }
        }
        TeethingParish x = Edges.told(Edges.head(5, 9, 40, 20, 3, 0, 0) + Edges.one(7, 1, 1, 0) + Edges.one(9, 0, 1, 0)
                + Edges.one(8, 0, 1, 0));
        due("who has had it as long as another one", x.gives(1), 0);
        due("who has had it longer", x.gives(2), 1);
        due("who has not had it so long", x.gives(0), 2);
    }

    private static void teeth() {
        Edges.term("At the end of a NIGHT it cuts a TOOTH for each tooth that it HOLDS, teeth at most in all, and"
                + " HOLDS so much less.");
        int[][] due = {{6, 0, 6}, {7, 1, 0}, {8, 1, 1}, {13, 1, 6}, {14, 2, 0}, {15, 2, 1}, {20, 2, 6}};
        for (int[] each : due) {
            TeethingParish x = Edges.told(Edges.head(2, 60, 7, 2, 0, 0, 0) + Edges.one(each[0], 0, 1, 0));
            due("cut(0) of " + each[0], x.cut(0), each[1]);
            due("holds(0) of " + each[0], x.holds(0), each[2]);
            due("cut(1) of " + each[0], x.cut(1), each[1]);
            due("holds(1) of " + each[0], x.holds(1), each[2]);
        }
        TeethingParish more = Edges.told(Edges.head(1, 60, 7, 2, 0, 0, 0) + Edges.one(20, 0, 1, 0).repeat(3));
        due("cut(0) of 60", more.cut(0), 2);
        due("holds(0) of 60", more.holds(0), 46);
        TeethingParish later = Edges.told(Edges.head(3, 60, 7, 2, 0, 0, 0) + Edges.one(6, 0, 1, 0) + Edges.one(1, 1, 1, 0));
        due("HELD from the NIGHT before", later.cut(1), 1);
        due("HELD no more", later.holds(1), 0);
        Edges.term("When teeth are cut, it is FEAST: in NIGHTS behind that nobody GIVES.");
        TeethingParish feast = Edges.told(Edges.head(4, 60, 7, 2, 0, 0, 0) + Edges.one(13, 0, 1, 0) + Edges.one(1, 1, 1, 0)
                + Edges.one(9, 1, 1, 0) + Edges.one(2, 2, 1, 0));
        due("one TOOTH is no FEAST yet", feast.given(1), 2 + 4);
        due("FEAST", feast.feast(), 1);
        due("nobody GIVES behind it", feast.given(2), 0);
        due("nor later", feast.given(3), 0);
        due("gives(3)", feast.gives(3), -1);
        due("BEARS in both", feast.bears(3), 4);
        due("HOLDS on", feast.holds(3), 9);
    }

    // Promises.

    private static void gives() {
        Edges.promise(7, "NONE: in none; -2: there is none such.");
        TeethingParish x = Edges.told(Edges.A);
        due("who has it in no NIGHT", x.gives(3), -1);
        due("who has it in FEAST", x.gives(4), -1);
        due("who GIVES in NIGHT 0", x.gives(0), 0);
        due("whose ache is too great", Edges.told(Edges.MOST).gives(7), -1);
        due("who GIVES in NIGHT 11", Edges.told(NOBODY_BEARS).gives(0), 11);
        Edges.refusedWithoutPerson("gives", TeethingParish::gives);
    }

    private static void nightsOfAll() {
        TeethingParish nobody = Edges.told(Edges.NO_PERSON);
        TeethingParish most = Edges.told(Edges.MOST);
        String full = Edges.head(2, 8, 40, 20, 0, 0, 0) + Edges.one(1, 0, 1, 0).repeat(8);
        Edges.promise(8, "-2: there is none such.");
        Edges.refusedWithoutNight("given", TeethingParish::given);
        due("given(0) of all", Edges.told(full).given(0), 255);
        due("given(1) of all", Edges.told(full).given(1), 0);
        due("given(0) of nobody", nobody.given(0), 0);
        Edges.promise(9, "-2 likewise.");
        Edges.refusedWithoutNight("waits", TeethingParish::waits);
        due("waits(0) of all", most.waits(0), 255);
        due("waits(11) of all", most.waits(11), 255);
        due("waits(0) of nobody", nobody.waits(0), 0);
        Edges.promise(10, "-2 likewise.");
        Edges.refusedWithoutNight("left", TeethingParish::left);
        due("left(0) of a full NIGHT", Edges.told(full).left(0), 0);
        due("left(1) of an empty one", Edges.told(full).left(1), 8);
        due("left(0) of nobody", nobody.left(0), 1);
        due("left(11) of 60", Edges.told(NOBODY_BEARS).left(11), 59);
    }

    private static void borne() {
        TeethingParish nobody = Edges.told(Edges.NO_PERSON);
        TeethingParish most = Edges.told(Edges.MOST);
        Edges.promise(11, "-2: there is none such.");
        Edges.refusedWithoutPerson("bears", TeethingParish::bears);
        due("bears(7), the most", most.bears(7), 2160);
        due("bears(0), nothing", Edges.told(NOBODY_BEARS).bears(0), 0);
        Edges.promise(12, "-2: there is none such.");
        Edges.refusedWithoutNight("groans", TeethingParish::groans);
        due("groans(11), the most", most.groans(11), 1440);
        due("groans(0) of nobody", nobody.groans(0), 0);
        Edges.promise(13, "-2: there is no PARISH.");
        Edges.refusedWithoutParish("all()", TeethingParish::all);
        due("all(), the most", most.all(), 17_280);
        due("all() of nobody", nobody.all(), 0);
        due("all(), nothing", Edges.told(NOBODY_BEARS).all(), 0);
    }

    private static void worst() {
        Edges.promise(14, "the first of several, if anybody BEARS.");
        due("all BEAR 6", Edges.told(Edges.head(1, 1, 40, 20, 0, 0, 0) + Edges.one(2, 0, 3, 0) + Edges.one(3, 0, 2, 0)
                + Edges.one(6, 0, 1, 0)).worst(), 0);
        due("the second and third BEAR 12", Edges.told(Edges.head(1, 1, 40, 20, 0, 0, 0) + Edges.one(11, 0, 1, 0)
                + Edges.one(4, 0, 3, 0) + Edges.one(6, 0, 2, 0)).worst(), 1);
        due("the last one alone", Edges.told(Edges.head(1, 59, 40, 20, 0, 0, 0) + Edges.one(5, 0, 9, 0).repeat(5)
                + Edges.one(20, 0, 9, 0) + Edges.one(14, 0, 9, 0) + Edges.one(1, 0, 1, 0)).worst(), 7);
        Edges.promise(14, "NONE: nobody; -2 likewise.");
        due("nobody BEARS", Edges.told(NOBODY_BEARS).worst(), -1);
        due("no PERSONS", Edges.told(Edges.NO_PERSON).worst(), -1);
        Edges.refusedWithoutParish("worst()", TeethingParish::worst);
    }

    private static void crowded() {
        Edges.promise(15, "NONE: none; -2 likewise.");
        due("nobody waits", Edges.told(NOBODY_BEARS).crowded(), -1);
        due("no PERSONS", Edges.told(Edges.NO_PERSON).crowded(), -1);
        due("in the first NIGHT", Edges.told(Edges.MOST).crowded(), 0);
        due("in the last NIGHT", Edges.told(Edges.head(12, 5, 40, 20, 0, 0, 0) + Edges.one(6, 11, 1, 0)).crowded(), 11);
        due("in FEAST", Edges.told(Edges.head(3, 5, 1, 1, 0, 0, 0) + Edges.one(1, 0, 1, 0) + Edges.one(1, 1, 1, 0))
                .crowded(), 1);
        Edges.refusedWithoutParish("crowded()", TeethingParish::crowded);
    }

    private static void held() {
        Edges.promise(16, "-2: there is none such.");
        Edges.refusedWithoutNight("holds", TeethingParish::holds);
        due("holds(11) of nothing", Edges.told(Edges.MOST).holds(11), 0);
        Edges.promise(17, "-2 likewise.");
        Edges.refusedWithoutNight("cut", TeethingParish::cut);
        due("cut(11) of nothing", Edges.told(Edges.MOST).cut(11), 0);
        TeethingParish twenty = Edges.told(Edges.head(12, 60, 1, 20, 0, 99, 0) + Edges.one(20, 11, 1, 0));
        due("cut(10)", twenty.cut(10), 0);
        due("cut(11), the most", twenty.cut(11), 20);
        Edges.promise(18, "NONE: none; -2: there is no PARISH.");
        due("one is lacking", Edges.told(Edges.head(3, 60, 7, 2, 0, 0, 0) + Edges.one(13, 0, 1, 0)).feast(), -1);
        due("none is lacking", Edges.told(Edges.head(3, 60, 7, 2, 0, 0, 0) + Edges.one(14, 0, 1, 0)).feast(), 0);
        due("in the last NIGHT", twenty.feast(), 11);
        due("no PERSONS", Edges.told(Edges.NO_PERSON).feast(), -1);
        Edges.refusedWithoutParish("feast()", TeethingParish::feast);
        Edges.promise(19, "-2 likewise.");
        Edges.refusedWithoutParish("paid()", TeethingParish::paid);
        due("paid(), the most", twenty.paid(), 1980);
        due("paid() for no TOOTH", Edges.told(Edges.MOST).paid(), 0);
        due("paid() in one NIGHT", Edges.told(Edges.head(1, 60, 1, 20, 0, 1, 0) + Edges.one(20, 0, 1, 0)).paid(), 20);
        due("paid() of no pays", Edges.told(Edges.head(1, 60, 1, 20, 0, 0, 0) + Edges.one(20, 0, 1, 0)).paid(), 0);
    }

    private static void bits() {
        TeethingParish twelve = Edges.told(Edges.head(12, 1, 1, 1, 0, 0, 0));
        Edges.promise(20, "-2 likewise.");
        Edges.refusedWithoutParish("quiet()", TeethingParish::quiet);
        due("quiet() of twelve", twelve.quiet(), 4095);
        due("quiet() of none", Edges.told(Edges.MOST).quiet(), 0);
        Edges.promise(21, "-2 likewise.");
        Edges.refusedWithoutParish("kept()", TeethingParish::kept);
        due("kept() of all", Edges.told(Edges.MOST).kept(), 255);
        due("kept() of none", Edges.told(IN_TURN).kept(), 0);
        due("kept() of no PERSONS", twelve.kept(), 0);
        Edges.promise(22, "-2 likewise.");
        Edges.refusedWithoutParish("idle()", TeethingParish::idle);
        due("idle() of twelve", twelve.idle(), 4095);
        due("idle() of none", Edges.told(IN_TURN).idle(), 0);
    }

    private static void big() {
        Edges.promise(23, "the first of several. NONE: nobody does; -2: there is none such.");
        TeethingParish x = Edges.told(Edges.head(2, 60, 40, 20, 1, 0, 0) + Edges.one(1, 0, 1, 0) + Edges.one(9, 0, 1, 0)
                + Edges.one(9, 0, 1, 0));
        due("of two like ones", x.big(0), 1);
        due("of nobody", x.big(1), -1);
        due("of the least ache", Edges.told(NOBODY_BEARS).big(11), 0);
        due("of the last PERSON", Edges.told(IN_TURN).big(7), 7);
        due("of no PERSONS", Edges.told(Edges.NO_PERSON).big(0), -1);
        Edges.refusedWithoutNight("big", TeethingParish::big);
    }

    private static void lastAndGap() {
        Edges.promise(25, "NONE: none; -2: there is no PARISH.");
        due("the first NIGHT", Edges.told(Edges.head(3, 1, 1, 1, 0, 0, 0) + Edges.one(1, 0, 1, 0)).last(), 0);
        due("the last NIGHT", Edges.told(NOBODY_BEARS).last(), 11);
        due("nobody GIVES", Edges.told(Edges.MOST).last(), -1);
        due("no PERSONS", Edges.told(Edges.NO_PERSON).last(), -1);
        Edges.refusedWithoutParish("last()", TeethingParish::last);
        Edges.promise(26, "NONE: he does not GIVE; -2: there is none such.");
        due("who GIVES at once", Edges.told(NOBODY_BEARS).gap(0), 0);
        due("who waits longest", Edges.told(IN_TURN).gap(7), 7);
        due("who does not GIVE", Edges.told(Edges.MOST).gap(0), -1);
        due("who never has his ache", Edges.told(Edges.A).gap(3), -1);
        Edges.refusedWithoutPerson("gap", TeethingParish::gap);
    }

    private static void when() {
        Edges.promise(29, "TOOTH k (1 .. 20) is cut. NONE: in none; -2: there is no such k, no PARISH.");
        TeethingParish x = Edges.told(Edges.head(12, 60, 1, 20, 0, 0, 0) + Edges.one(1, 0, 1, 0) + Edges.one(19, 11, 1, 0));
        due("when(1)", x.when(1), 0);
        due("when(2)", x.when(2), 11);
        due("when(20)", x.when(20), 11);
        TeethingParish fewer = Edges.told(Edges.head(2, 60, 1, 19, 0, 0, 0) + Edges.one(20, 0, 1, 0));
        due("the last of 19", fewer.when(19), 0);
        due("more than teeth", fewer.when(20), -1);
        due("none is cut", Edges.told(Edges.MOST).when(1), -1);
        Edges.refusedOutside("when", x, TeethingParish::when, 1, 20);
        Edges.refusedWithoutParish("when(1)", y -> y.when(1));
    }

    private static void share() {
        Edges.promise(30, "NONE: nobody BEARS; -2: there are none such.");
        for (int what = 0; what < 2; what++) {
            int each = what;
            due("share(0, " + what + "), nobody", Edges.told(NOBODY_BEARS).share(0, what), -1);
            Edges.refusedWithoutPerson("share(.., " + what + ")", (x, n) -> x.share(n, each));
        }
        Edges.refusedOutside("share(0, ..)", Edges.told(Edges.A), (x, n) -> x.share(0, n), 0, 1);
        Edges.refusedOutside("share(0, ..) where nobody BEARS", Edges.told(NOBODY_BEARS), (x, n) -> x.share(0, n), 0, 1);
        Edges.term("FRACTIONS are told in lowest terms (0 / 1).");
        TeethingParish x = Edges.told(Edges.A);
        due("nothing of 17", x.share(0, 0), 0);
        due("nothing of 17, below", x.share(0, 1), 1);
        TeethingParish most = Edges.told(Edges.MOST);
        due("2160 of 17280", most.share(7, 0), 1);
        due("2160 of 17280, below", most.share(7, 1), 8);
        TeethingParish alone = Edges.told(Edges.head(2, 1, 1, 1, 0, 0, 0) + Edges.one(2, 0, 3, 0));
        due("12 of 12", alone.share(0, 0), 1);
        due("12 of 12, below", alone.share(0, 1), 1);
    }
}
