/** Edges of years that would be: Terms V, IX and X, promises 24, 27, 28, 31, 32, 41 to 45, 56 to 61, 66 and 67. */
final class OtherYearEdges {
    private static final String IN_TURN = Edges.head(8, 20, 40, 20, 0, 0, 0) + Edges.one(20, 0, 1, 0).repeat(8);
    private static final String GREATEST_LAST = Edges.head(8, 20, 40, 20, 1, 0, 0) + Edges.one(19, 0, 1, 0).repeat(7)
            + Edges.one(20, 0, 1, 0);
    private static final String ALONE = Edges.head(6, 60, 40, 20, 0, 0, 0) + Edges.one(2, 0, 3, 0);

    private OtherYearEdges() {
    }

    static void all() {
        suits();
        without();
        wide();
        mild();
        by();
        groanByOneAndByTwenty();
        groan();
        holdingBack();
        rests();
        holding();
        born();
        mean();
        late();
        draws();
        drawn();
        luck();
    }

    private static void due(String call, long got, long want) {
        Edges.due(call, got, want);
    }

    private static void suits() {
        Edges.promise(24, "The from (0 .. 11) of a PERSON, in place of his own, by which all BEAR least, the least of"
                + " several.");
        due("all are alike", Edges.told(ALONE).suits(0), 0);
        String never = Edges.one(20, 0, 1, 0);
        due("the last NIGHT is the 12th", Edges.told(Edges.head(12, 1, 40, 20, 0, 0, 0) + never).suits(0), 11);
        due("there is no 12th NIGHT", Edges.told(Edges.head(11, 1, 40, 20, 0, 0, 0) + never).suits(0), 11);
        due("the least of those behind the last NIGHT", Edges.told(Edges.head(5, 1, 40, 20, 0, 0, 0) + never).suits(0), 5);
        TeethingParish x = Edges.told(IN_TURN);
        due("suits(7)", x.suits(7), 7);
        due("suits(0)", x.suits(0), 7);
        due("all stays", x.all(), 20 * 28);
        Edges.promise(24, "-2: there is none such.");
        Edges.refusedWithoutPerson("suits", TeethingParish::suits);
    }

    private static void without() {
        Edges.promise(27, "-2 likewise.");
        Edges.refusedWithoutPerson("without", TeethingParish::without);
        due("there are no others", Edges.told(Edges.head(1, 1, 1, 1, 0, 0, 0) + Edges.one(9, 0, 1, 0)).without(0), 0);
        due("the most", Edges.told(Edges.MOST).without(7), 15_120);
        due("his ache never comes anyhow", Edges.told(Edges.A).without(3), 17);
        Edges.promise(28, "-2 likewise.");
        Edges.refusedWithoutPerson("blocks", TeethingParish::blocks);
        due("all others", Edges.told(IN_TURN).blocks(0), 254);
        due("none of them", Edges.told(IN_TURN).blocks(7), 0);
        due("all others of the last one", Edges.told(GREATEST_LAST).blocks(7), 127);
        due("nobody ever GIVES", Edges.told(Edges.MOST).blocks(0), 0);
        due("there are no others", Edges.told(ALONE).blocks(0), 0);
    }

    private static void wide() {
        Edges.promise(31, "The least room (1 .. 160) of all NIGHTS by which nobody ever BEARS (II).");
        due("no PERSONS", Edges.told(Edges.NO_PERSON).wide(), 1);
        due("an ache of 1", Edges.told(Edges.head(1, 60, 40, 20, 0, 0, 0) + Edges.one(1, 0, 1, 0)).wide(), 1);
        due("an ache of 2", Edges.told(ALONE).wide(), 2);
        due("all at once", Edges.told(Edges.MOST).wide(), 160);
        due("two and two", Edges.told(Edges.head(2, 1, 40, 20, 0, 0, 0) + Edges.one(20, 0, 1, 0).repeat(2)
                + Edges.one(19, 1, 1, 0).repeat(2)).wide(), 40);
        Edges.promise(31, "NONE: by none; -2: there is no PARISH.");
        due("FEAST ahead of the second", Edges.told(Edges.head(2, 1, 1, 1, 0, 0, 0) + Edges.one(1, 0, 1, 0)
                + Edges.one(1, 1, 1, 0)).wide(), -1);
        // With room for the second there is FEAST ahead of the third, with less the second BEARS.
        due("FEAST by much room alone", Edges.told(Edges.head(2, 1, 2, 1, 0, 0, 0) + Edges.one(1, 0, 1, 0).repeat(2)
                + Edges.one(1, 1, 1, 0)).wide(), -1);
        Edges.refusedWithoutParish("wide()", TeethingParish::wide);
    }

    private static void mild() {
        Edges.promise(32, "The most PERSONS whose aches are together n (0 .. 160) at most.");
        TeethingParish x = Edges.told(Edges.MOST);
        int[][] due = {{0, 0}, {19, 0}, {20, 1}, {39, 1}, {40, 2}, {159, 7}, {160, 8}};
        for (int[] each : due) {
            due("mild(" + each[0] + ") of eight times 20", x.mild(each[0]), each[1]);
        }
        TeethingParish least = Edges.told(Edges.head(1, 60, 40, 20, 0, 0, 0) + Edges.one(20, 0, 1, 0) + Edges.one(1, 11, 1, 0)
                + Edges.one(2, 0, 1, 0));
        int[][] dueOfLeast = {{0, 0}, {1, 1}, {2, 1}, {3, 2}, {22, 2}, {23, 3}};
        for (int[] each : dueOfLeast) {
            due("mild(" + each[0] + ") of 20, 1 and 2", least.mild(each[0]), each[1]);
        }
        due("no PERSONS", Edges.told(Edges.NO_PERSON).mild(160), 0);
        Edges.promise(32, "-2: there is no such n, no PARISH.");
        Edges.refusedOutside("mild", x, TeethingParish::mild, 0, 160);
        Edges.refusedWithoutParish("mild(0)", y -> y.mild(0));
    }

    private static void by() {
        String longest = Edges.head(3, 5, 40, 20, 1, 0, 0) + Edges.one(5, 1, 1, 0) + Edges.one(5, 0, 1, 0)
                + Edges.one(5, 0, 9, 0);
        Edges.promise(41, "by a RULE (0 .. 3) in place of the one told. -2: there is none such, no PARISH.");
        Edges.refusedOutside("by", Edges.told(Edges.A), TeethingParish::by, 0, 3);
        Edges.refusedWithoutParish("by(0)", x -> x.by(0));
        due("by(3) of nobody", Edges.told(Edges.NO_PERSON).by(3), 0);
        // Who has come earlier and is dearer waits for another one, but by the last RULE.
        TeethingParish last = Edges.told(longest);
        int[] borne = {90, 90, 90, 50};
        for (int rule = 0; rule < 4; rule++) {
            due("by(" + rule + ")", last.by(rule), borne[rule]);
        }
        Edges.promise(42, "The RULE by which it is least, the least of several. -2: there is no PARISH.");
        due("the last one", last.rule(), 3);
        due("the last one, which is told", Edges.told(longest.replace("rule 1", "rule 3")).rule(), 3);
        due("all are alike", Edges.told(IN_TURN.replace("rule 0", "rule 3")).rule(), 0);
        due("of nobody", Edges.told(Edges.NO_PERSON).rule(), 0);
        due("the second alone", Edges.told(Edges.head(2, 5, 9, 9, 0, 0, 0) + Edges.one(2, 0, 1, 0)
                + Edges.one(5, 0, 1, 0)).rule(), 1);
        Edges.refusedWithoutParish("rule()", TeethingParish::rule);
    }

    // GROAN.

    private static void groanByOneAndByTwenty() {
        Edges.term("a PERSON tells his ache greater by 1 .. 20: the RULE goes by what he tells, all else by his ache.");
        String head = Edges.head(2, 20, 40, 9, 1, 0, 0);
        TeethingParish like = Edges.told(head + Edges.one(20, 0, 1, 0).repeat(2));
        due("by 1", like.groan(1), 1);
        TeethingParish least = Edges.told(head + Edges.one(20, 0, 1, 0) + Edges.one(1, 0, 1, 0));
        due("by 20", least.groan(1), 20);
        TeethingParish first = Edges.told(head + Edges.one(1, 0, 1, 0) + Edges.one(20, 0, 1, 0));
        due("by 19, as he is the first of like ones", first.groan(0), 19);
        // He tells 6 in a room of 5, but GIVES 2.
        TeethingParish small = Edges.told(Edges.head(2, 5, 40, 9, 1, 0, 0) + Edges.one(5, 0, 1, 0) + Edges.one(2, 0, 1, 0));
        due("by more than there is room", small.groan(1), 4);
        due("his ache stays", small.person(1, 0), 2);
        due("he BEARS as ever", small.bears(1), 2);
    }

    private static void groan() {
        Edges.promise(43, "NONE: by none; -2: there is none such.");
        due("who BEARS nothing", Edges.told(Edges.A.replace("rule 0", "rule 1")).groan(0), -1);
        due("who is in nobody's way", Edges.told(Edges.MOST.replace("rule 0", "rule 1")).groan(0), -1);
        due("by RULE 0", Edges.told(IN_TURN).groan(7), -1);
        due("by RULE 2", Edges.told(IN_TURN.replace("rule 0", "rule 2")).groan(7), -1);
        due("by RULE 3", Edges.told(IN_TURN.replace("rule 0", "rule 3")).groan(7), -1);
        Edges.refusedWithoutPerson("groan", TeethingParish::groan);
        Edges.promise(44, "by a RULE (0 .. 3) in place of the one told, as bits. -2: there is none such, no PARISH.");
        Edges.refusedOutside("tempts", Edges.told(Edges.A), TeethingParish::tempts, 0, 3);
        Edges.refusedWithoutParish("tempts(0)", x -> x.tempts(0));
        TeethingParish x = Edges.told(IN_TURN);
        int[] tempted = {0, 254, 0, 0};
        for (int rule = 0; rule < 4; rule++) {
            due("tempts(" + rule + ")", x.tempts(rule), tempted[rule]);
            due("tempts(" + rule + ") of nobody", Edges.told(Edges.NO_PERSON).tempts(rule), 0);
        }
        TeethingParish told0 = Edges.told(Edges.head(2, 20, 40, 20, 0, 0, 0) + Edges.one(5, 0, 1, 0)
                + Edges.one(20, 0, 1, 0));
        due("who BEARS nothing by the RULE told", told0.tempts(1), 1);
        due("who BEARS by the RULE told alone", told0.groan(1), -1);
        Edges.promise(45, "-2: there is no PARISH.");
        Edges.refusedWithoutParish("proof()", TeethingParish::proof);
        due("all but one", x.proof(), 1 + 4 + 8);
        due("the first ones too", Edges.told(GREATEST_LAST).tempts(1), 127);
        due("all, of nobody", Edges.told(Edges.NO_PERSON).proof(), 15);
    }

    // Two who hold back.

    private static void holdingBack() {
        Edges.term("Two PERSONS each hold back 0 .. 3 NIGHTS: they do not GIVE ahead of so many NIGHTS behind their"
                + " from");
        TeethingParish x = Edges.told(ALONE + Edges.one(1, 3, 1, 0));
        for (int n = 0; n < 4; n++) {
            due("BEARS till NIGHT " + n, x.holding(0, 1, n, 0), 6 * n);
            due("BEARS from NIGHT 3 till " + (3 + n), x.holding(1, 0, n, 3), n);
        }
        TeethingParish few = Edges.told(Edges.head(2, 60, 40, 20, 0, 0, 0) + Edges.one(2, 0, 3, 0) + Edges.one(1, 11, 1, 0));
        due("behind the last NIGHT", few.holding(0, 1, 2, 0), 12);
        due("far behind it", few.holding(0, 1, 3, 0), 12);
        due("who never has his ache", few.holding(1, 0, 3, 0), 0);
        Edges.term("(the RULE goes by their from, and they BEAR till they GIVE, as ever).");
        // Both come in NIGHT 2, in which one can GIVE: the second, who has had his longer.
        TeethingParish two = Edges.told(Edges.head(5, 5, 40, 20, 3, 0, 0) + Edges.one(5, 1, 1, 0) + Edges.one(5, 0, 1, 0));
        due("the second BEARS two NIGHTS", two.holding(1, 0, 2, 1), 10);
        due("the first BEARS two NIGHTS", two.holding(0, 1, 1, 2), 10);
        due("all stays", two.all(), 0);
        Answers.stay("behind what two would hold back", two);
        Edges.term("REST: neither BEARS less in all by another such number alone.");
        due("rests() of the two", two.rests(0, 1), 1);
        TeethingParish apart = Edges.told(ALONE + Edges.one(1, 0, 1, 0));
        due("rests() of two who are not in each other's way", apart.rests(0, 1), 1);
    }

    private static void rests() {
        Edges.promise(56, "-2: there are none such, one twice.");
        Edges.refusedWithoutPerson("rests(.., the next)", (x, n) -> x.rests(n, n == 0 ? 1 : 0));
        Edges.refusedWithoutPerson("rests(the next, ..)", (x, n) -> x.rests(n == 0 ? 1 : 0, n));
        TeethingParish x = Edges.told(Edges.MOST);
        // Others GIVE in NIGHTS 0 and 1: the first of the two can hold back two NIGHTS, the second three.
        due("the second GIVES in NIGHT 3 by any", Edges.told(IN_TURN).rests(2, 3), 12);
        due("the other way round", Edges.told(IN_TURN).rests(3, 2), 12);
        due("one twice", x.rests(0, 0), -2);
        due("the last one twice", x.rests(7, 7), -2);
        due("all are REST, as nobody GIVES", x.rests(0, 7), 16);
        due("all are REST, as nobody has an ache", Edges.told(Edges.head(1, 60, 40, 20, 0, 0, 0)
                + Edges.one(1, 1, 1, 0).repeat(2)).rests(1, 0), 16);
        Edges.promise(57, "NONE: there is none; -2 likewise.");
        // Nobody BEARS less as he holds back, so there always is one: NONE is never due.
        due("the first of all", x.rest(0, 7), 0);
        due("the first of one", Edges.told(Edges.A).rest(0, 1), 0);
        Edges.refusedWithoutPerson("rest(.., the next)", (y, n) -> y.rest(n, n == 0 ? 1 : 0));
        Edges.refusedWithoutPerson("rest(the next, ..)", (y, n) -> y.rest(n == 0 ? 1 : 0, n));
        due("one twice", x.rest(0, 0), -2);
        due("the last one twice", x.rest(7, 7), -2);
    }

    private static void holding() {
        Edges.promise(58, "x, y (0 .. 3). -2: there are none such, one twice.");
        TeethingParish x = Edges.told(Edges.A);
        Edges.refusedOutside("holding(0, 1, .., 0)", x, (y, n) -> y.holding(0, 1, n, 0), 0, 3);
        Edges.refusedOutside("holding(0, 1, 0, ..)", x, (y, n) -> y.holding(0, 1, 0, n), 0, 3);
        Edges.refusedWithoutPerson("holding(.., the next)", (y, n) -> y.holding(n, n == 0 ? 1 : 0, 0, 0));
        Edges.refusedWithoutPerson("holding(the next, ..)", (y, n) -> y.holding(n == 0 ? 1 : 0, n, 0, 0));
        due("one twice", x.holding(0, 0, 0, 0), -2);
        due("the last one twice", x.holding(4, 4, 3, 3), -2);
    }

    // CHILD.

    private static void born() {
        Edges.promise(59, "-2: there are none such.");
        for (int what = 0; what < 2; what++) {
            int each = what;
            Edges.refusedWithoutNight("born(.., " + what + ")", (x, n) -> x.born(n, each));
        }
        Edges.refusedOutside("born(0, ..)", Edges.told(Edges.A), (x, n) -> x.born(0, n), 0, 1);
        Edges.term("in each NIGHT one is born with odds in ten, by itself; till one is, nobody GIVES; from that NIGHT"
                + " on as II.");
        TeethingParish never = Edges.told(Edges.MOST.replace("odds 10", "odds 0"));
        TeethingParish ever = Edges.told(Edges.MOST);
        TeethingParish seldom = Edges.told(Edges.MOST.replace("odds 10", "odds 1"));
        for (int night = 0; night < 12; night += 11) {
            due("born(" + night + ", 0) by no odds", never.born(night, 0), 0);
            due("born(" + night + ", 1) by no odds", never.born(night, 1), 1);
            due("born(" + night + ", 0) by ten", ever.born(night, 0), 1);
            due("born(" + night + ", 1) by ten", ever.born(night, 1), 1);
        }
        due("born(0, 0) by one", seldom.born(0, 0), 1);
        due("born(0, 1) by one", seldom.born(0, 1), 10);
        due("born(11, 0) by one", seldom.born(11, 0), 717_570_463_519L);
        due("born(11, 1) by one", seldom.born(11, 1), 1_000_000_000_000L);
    }

    private static void mean() {
        Edges.promise(60, "-2: there is no such what, no PARISH.");
        Edges.refusedOutside("mean", Edges.told(Edges.A), (x, n) -> x.mean(n), 0, 1);
        Edges.refusedWithoutParish("mean(0)", x -> x.mean(0));
        Edges.refusedWithoutParish("mean(1)", x -> x.mean(1));
        due("of nobody", Edges.told(Edges.NO_PERSON).mean(0), 0);
        due("of nobody, below", Edges.told(Edges.NO_PERSON).mean(1), 1);
        due("the most", Edges.told(Edges.MOST).mean(0), 17_280);
        due("the most, below", Edges.told(Edges.MOST).mean(1), 1);
        due("by no odds", Edges.told(Edges.A.replace("odds 5", "odds 0")).mean(0), 145);
        due("by ten", Edges.told(Edges.A.replace("odds 5", "odds 10")).mean(0), 17);
        // By nine in ten in each of twelve NIGHTS one BEARS 1 till the child is born: 0.1 + 0.01 + ..
        TeethingParish long12 = Edges.told(Edges.head(12, 1, 40, 20, 0, 0, 9) + Edges.one(1, 0, 1, 0));
        due("twelve NIGHTS", long12.mean(0), 111_111_111_111L);
        due("twelve NIGHTS, below", long12.mean(1), 1_000_000_000_000L);
    }

    private static void late() {
        Edges.promise(61, "-2: there is none such.");
        Edges.refusedWithoutNight("late", TeethingParish::late);
        due("late(0) is as told", Edges.told(Edges.A).late(0), 17);
        due("late(5) of six", Edges.told(ALONE).late(5), 30);
        TeethingParish behind = Edges.told(Edges.head(3, 1, 40, 20, 0, 0, 0) + Edges.one(1, 2, 1, 0));
        due("late(2), who comes with the child", behind.late(2), 0);
        TeethingParish x = Edges.told(Edges.A);
        due("late(4)", x.late(4), 121);
        due("without(3) behind late(4)", x.without(3), 17);
        due("by(2) behind late(4)", x.by(2), 24);
        due("all stays", x.all(), 17);
        Answers.stay("behind years of a late child", x);
    }

    // DRAWS.

    private static TeethingParish ofOdds(int nights, int odds) {
        return Edges.told(Edges.head(nights, 60, 40, 20, 0, 0, odds) + Edges.one(1, 0, 1, 0));
    }

    private static void draws() {
        Edges.term("modulo 2,147,483,648 (at first it is the seed); a draw: x / 65536, cut, modulo 10.");
        // From 2,000,000,000: 4 3 1 7 6 2 7 7 5 4 7 0.
        int[] night = {-1, 11, 2, 2, 1, 0, 0, 0, 0, 0, 0};
        for (int odds = 0; odds <= 10; odds++) {
            due("from the greatest seed by odds " + odds, ofOdds(12, odds).drawn(2_000_000_000, 0), night[odds]);
        }
        Edges.term("NIGHT by NIGHT, till one is born, a draw: below odds it is.");
        // From 1: 8 8 3 5 1 7 0.
        due("0 is not below 0", ofOdds(12, 0).drawn(0, 0), -1);
        due("0 is below 1", ofOdds(12, 1).drawn(0, 0), 0);
        due("3 is not below 3", ofOdds(12, 3).drawn(1, 0), 4);
        due("3 is below 4", ofOdds(12, 4).drawn(1, 0), 2);
        due("8 is not below 8", ofOdds(12, 8).drawn(1, 0), 2);
        due("8 is below 9", ofOdds(12, 9).drawn(1, 0), 0);
    }

    private static void drawn() {
        Edges.promise(66, "from a seed (0 .. 2,000,000,000), what 0: the NIGHT in which a child is born (NONE: none)");
        due("in the last NIGHT", ofOdds(7, 1).drawn(1, 0), 6);
        due("in none", ofOdds(6, 1).drawn(1, 0), -1);
        due("what is BORNE till the last NIGHT", ofOdds(7, 1).drawn(1, 1), 6);
        due("what is BORNE without child", ofOdds(6, 1).drawn(1, 1), 6);
        due("what is BORNE in the one NIGHT", ofOdds(1, 0).drawn(0, 1), 1);
        due("of nobody", Edges.told(Edges.NO_PERSON).drawn(0, 1), 0);
        Edges.promise(66, "-2: there are none such, no PARISH.");
        for (int what = 0; what < 2; what++) {
            int each = what;
            TeethingParish x = ofOdds(12, 9);
            Edges.refusedOutside("drawn(.., " + what + ")", x, (y, n) -> y.drawn(n, each), 0, 2_000_000_000);
            Edges.refusedWithoutParish("drawn(0, " + what + ")", y -> y.drawn(0, each));
        }
        Edges.refusedOutside("drawn(0, ..)", ofOdds(12, 9), (y, n) -> y.drawn(0, n), 0, 1);
    }

    private static void luck() {
        Edges.promise(67, "Of n (1 .. 20) such from seeds, the seed and 1, .., in how many a PERSON GIVES. -2: there"
                + " are none such.");
        // By one in ten in one NIGHT the seeds 0, 13, 14, 2,000,000,006 and 2,000,000,019 bring a child.
        TeethingParish x = ofOdds(1, 1);
        int[][] due = {{0, 1, 1}, {0, 13, 1}, {0, 14, 2}, {0, 20, 3}, {1, 12, 0}, {1, 13, 1}, {1, 1, 0}};
        for (int[] each : due) {
            due("luck(" + each[0] + ", " + each[1] + ", 0)", x.luck(each[0], each[1], 0), each[2]);
        }
        // By the seeds 0 to 19 the child is born in NIGHT 0 in 9 years, in NIGHT 1 in 5: then the second comes too late.
        TeethingParish two = Edges.told(Edges.head(2, 5, 40, 20, 0, 0, 5) + Edges.one(5, 0, 1, 0).repeat(2));
        due("who GIVES with the child", two.luck(0, 20, 0), 14);
        due("who GIVES in the NIGHT behind", two.luck(0, 20, 1), 9);
        due("from the greatest seed", x.luck(2_000_000_000, 1, 0), 0);
        due("seven from the greatest seed", x.luck(2_000_000_000, 7, 0), 1);
        due("twenty from the greatest seed", x.luck(2_000_000_000, 20, 0), 2);
        due("by no odds", ofOdds(12, 0).luck(0, 20, 0), 0);
        due("by ten", ofOdds(1, 10).luck(0, 20, 0), 20);
        due("who never GIVES", Edges.told(Edges.MOST).luck(0, 20, 7), 0);
        Edges.refusedWithoutPerson("luck(0, 1, ..)", (y, n) -> y.luck(0, 1, n));
        Edges.refusedOutside("luck(0, .., 0)", x, (y, n) -> y.luck(0, n, 0), 1, 20);
        Edges.refusedOutside("luck(.., 1, 0)", x, (y, n) -> y.luck(n, 1, 0), 0, 2_000_000_000);
    }
}
