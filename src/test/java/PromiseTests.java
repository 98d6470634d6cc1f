/** One test or more for each promise, worked out by hand from the document. */
public final class PromiseTests {
    private static final String FIRST = "parish nights 5 room 10 tooth 7 teeth 2 rule 0 pays 3 odds 5;";
    /** FEAST in NIGHT 1; PERSON 3 never has his ache, PERSON 4 has it too late. */
    private static final String A = FIRST + "person ache 6 from 0 dear 2 bears 5;"
            + "person ache 5 from 0 dear 1 bears 6;\nperson ache 4 from 1 dear 3 bears 0;"
            + "person ache 8 from 9 dear 1 bears 20;\nperson ache 3 from 3 dear 2 bears 4;\n";
    private static final String NO_PERSON = "parish nights 3 room 1 tooth 1 teeth 1 rule 2 pays 99 odds 0;";

    public static void main(String[] args) {
        promise1();
        promises2And3();
        promise4();
        promise5();
        promise6();
        promises7To10();
        promises11To15();
        promises16To19();
        promises20To23();
        promise24();
        promises25And26();
        promises27And28();
        promises29And30();
        promise31();
        promise32();
        promises33And37To40();
        promises41And42();
        promises43To45();
        promises34And35And46To48();
        promises49To52();
        promises36And53();
        promises54And55();
        promises56To58();
        promises59To61();
        promises62To65();
        promises66And67();
        promises68And69();
        promises70And71();
        promise72();
        promise73();
        promise74();
        Checks.close();
    }

    private static void due(String call, long got, long want) {
        Checks.due(call, got, want);
    }

    private static void promise1() {
        TeethingParish x = new TeethingParish();
        for (int what = 0; what <= 11; what++) {
            due("1: count of nothing", x.count(what), 0);
        }
        due("1: NONE", TeethingParish.NONE, -1);
        withoutParish(x);
        Checks.tell(x, A);
        x.parish();
        withoutParish(x);
    }

    /** Every call that needs a PARISH, with arguments that would be good with one. */
    private static void withoutParish(TeethingParish x) {
        Checks.fill(x, 0, 0, 0, 0);
        Checks.fill(x, 1, 0);
        int[] ofNothing = {x.all(), x.worst(), x.crowded(), x.feast(), x.paid(), x.quiet(), x.kept(), x.idle(), x.last(),
            x.wide(), x.regret(), x.spoons(), x.lonely(), x.least(), x.rule(), x.proof(), x.pairs(), x.undo(), x.anew()};
        for (int i = 0; i < ofNothing.length; i++) {
            due("1: without PARISH, the call " + i, ofNothing[i], -2);
        }
        int[] ofOne = {x.gives(0), x.given(0), x.waits(0), x.left(0), x.bears(0), x.groans(0), x.holds(0), x.cut(0),
            x.big(0), x.suits(0), x.gap(0), x.without(0), x.blocks(0), x.when(1), x.mild(0), x.costs(0), x.plan(0),
            x.room(0), x.by(0), x.groan(0), x.tempts(0), x.bearer(0), x.kinder(0), x.nights(0), x.late(0), x.widen(1)};
        for (int i = 0; i < ofOne.length; i++) {
            due("1: without PARISH, the call of one number " + i, ofOne[i], -2);
        }
        int[] ofRows = {x.whose(1), x.fits(1), x.ask(1), x.leaves(1), x.fair(1), x.leave(1), x.whose(2), x.fair(2),
            x.leave(2)};
        for (int i = 0; i < ofRows.length; i++) {
            due("1: without PARISH, the call of a row " + i, ofRows[i], -2);
        }
        int[] ofMore = {x.person(0, 0), x.share(0, 0), x.rests(0, 1), x.rest(0, 1), x.holding(0, 1, 0, 0), x.ache(0, 1),
            x.comes(0, 0), x.drawn(0, 0), x.luck(0, 1, 0)};
        for (int i = 0; i < ofMore.length; i++) {
            due("1: without PARISH, the call of several numbers " + i, ofMore[i], -2);
        }
        due("1: ways without PARISH", x.ways(), -2);
        due("1: born without PARISH", x.born(0, 0), -2);
        due("1: mean without PARISH", x.mean(0), -2);
    }

    private static void promises2And3() {
        TeethingParish x = new TeethingParish();
        due("2: feed", x.feed(0, -1, 2, 3, 4), 20);
        due("2: feed again", x.feed(0, 1, 2, 3, 4), 40);
        due("2: bytes", x.count(10), 40);
        due("3: end beyond", x.end(41), -1);
        due("3: end below", x.end(-1), -1);
        due("3: bytes stay", x.count(10), 40);
        due("3: end", x.end(7), 7);
        due("3: bytes", x.count(10), 7);
        due("3: end at the end", x.end(7), 7);
        due("3: end of nothing", x.end(0), 0);
        for (int n = 1; n <= 35; n++) {
            due("2: feed " + n, x.feed(1, 2, 3, 4, 5), 20 * n);
        }
        due("2: feed too much", x.feed(1, 2, 3, 4, 5), -1);
        due("2: none come", x.count(10), 700);
        x.end(681);
        due("2: feed one too many", x.feed(1, 2, 3, 4, 5), -1);
        x.end(680);
        due("2: feed up to 700", x.feed(1, 2, 3, 4, 5), 700);
        // "pari", "sh n", "ight", "s 1 ", .. : the highest byte first.
        TeethingParish y = new TeethingParish();
        y.feed(0x70617269, 0x7368206e, 0x69676874, 0x73203120, 0x726f6f6d);
        y.feed(0x20312074, 0x6f6f7468, 0x20312074, 0x65657468, 0x20312072);
        y.feed(0x756c6520, 0x30207061, 0x79732030, 0x206f6464, 0x7320303b);
        due("2: bytes in their order", y.parish(), 1);
        due("2: bytes in their order, odds", y.count(6), 0);
    }

    private static void promise4() {
        TeethingParish x = new TeethingParish();
        due("4: empty", x.parish(), 0);
        due("4: LINES", Checks.tell(x, A), 6);
        due("4: TAPE is empty then", x.count(10), 0);
        due("4: PERSONS", x.count(7), 5);
        x.ache(0, 1);
        due("4: a FAULT", Checks.tell(x, "person"), -4);
        due("4: TAPE is empty behind a FAULT", x.count(10), 0);
        due("4: all else stays", x.person(0, 0), 1);
        due("4: acts stay", x.count(8), 1);
        due("4: a FAULT in a later LINE", Checks.tell(x, FIRST + "person ache 2 from 0 dear 10"), -4);
        due("4: all else stays", x.count(7), 5);
        due("4: another PARISH", Checks.tell(x, FIRST + "person ache 2 from 1 dear 9 bears 0;"), 2);
        due("4: nothing done", x.count(8), 0);
        due("4: another PARISH's", x.person(0, 2), 9);
        due("4: no PERSONS", Checks.tell(x, NO_PERSON), 1);
        due("4: no PERSON", x.gives(0), -2);
        due("4: one LINE", x.count(9), 1);
        due("4: no PARISH in place of one", x.parish(), 0);
        due("4: there is none", x.all(), -2);
        Checks.tell(x, A);
        Checks.tell(x, "parish nights 1 room 1 tooth 1 teeth 1 rule 1 pays 1 odds 1;person ache 1 from 1 dear 12");
        x.ache(0, 5);
        due("4: no PARISH in place of one with acts", x.parish(), 0);
        for (int what = 0; what <= 10; what++) {
            due("4: count of nothing " + what, x.count(what), 0);
        }
        due("4: blanks alone", Checks.tell(x, " \n \n"), 0);
        due("4: no blanks", Checks.tell(x, "parishnights1room60tooth40teeth20rule3pays99odds10;"
                + "personache20from11dear9bears20;"), -4);
        due("4: the longest word", x.fault(1), 0);
        due("4: few blanks", Checks.tell(x, "parish nights1room60tooth40teeth20rule3pays99odds10;"
                + "person ache20from11dear9bears20;"), 2);
        due("4: highest numbers", x.person(0, 3), 20);
        due("4: zeros ahead", Checks.tell(x, "parish nights 0000000000012 room 01 tooth 001 teeth 1 rule 0 pays 0"
                + " odds 0;"), 1);
        due("4: nights", x.count(0), 12);
    }

    private static void fault(String text, int fault, int place) {
        TeethingParish x = new TeethingParish();
        due("5: parish of " + text, Checks.tell(x, text), -4);
        due("5: fault of " + text, x.fault(0), fault);
        due("5: place of " + text, x.fault(1), place);
    }

    private static void promise5() {
        TeethingParish x = new TeethingParish();
        due("5: ahead of any", x.fault(0), 0);
        due("5: place ahead of any", x.fault(1), -1);
        due("5: another what", x.fault(2), -1);
        due("5: another what", x.fault(-1), -1);
        Checks.tell(x, "parish ,");
        due("5: a FAULT", x.fault(0), 1);
        due("5: its place", x.fault(1), 7);
        due("5: another what", x.fault(2), -1);
        Checks.tell(x, A);
        due("5: without", x.fault(0), 0);
        due("5: place without", x.fault(1), -1);
        fault("person ache 1 from 0 dear 1 bears 0;", 1, 0);
        fault("  ;", 1, 2);
        fault("7", 1, 0);
        fault("parish", 1, 6);
        fault("parish  \n", 1, 9);
        fault("parish nights", 1, 13);
        fault("parish nights ;", 1, 14);
        fault("parish nights room", 1, 14);
        fault("parish room 1", 1, 7);
        fault("parish night 1", 1, 7);
        fault("parish nightss 1", 1, 7);
        fault("parish nightsz 1", 1, 7);
        fault("parish nightsa 1", 1, 7);
        fault("parish zights 1", 1, 7);
        fault("parish `nights 1", 1, 7);
        fault("parish nights{ 1", 1, 13);
        fault("parish nights /1", 1, 14);
        fault("parish nights 1:", 1, 15);
        fault("Parish", 1, 0);
        fault("parish\tnights", 1, 6);
        fault("parish nights 1.", 1, 15);
        fault("parish nights \u00e9", 1, 14);
        fault("parish nights \u0000", 1, 14);
        fault("parish nights 0 %", 2, 14);
        fault("parish nights 13", 2, 14);
        fault("parish nights 99999999999999999999999999 room", 2, 14);
        fault("parish nights 4294967297 room", 2, 14);
        fault("parish nights -1", 1, 14);
        fault("parish nights 12 room 0", 2, 22);
        fault("parish nights 12 room 61", 2, 22);
        fault("parish nights 1 room 1 tooth 0", 2, 29);
        fault("parish nights 1 room 1 tooth 41", 2, 29);
        fault("parish nights 1 room 1 tooth 1 teeth 0", 2, 37);
        fault("parish nights 1 room 1 tooth 1 teeth 21", 2, 37);
        fault("parish nights 1 room 1 tooth 1 teeth 1 rule 4", 2, 44);
        fault("parish nights 1 room 1 tooth 1 teeth 1 rule 0 pays 100", 2, 51);
        fault("parish nights 1 room 1 tooth 1 teeth 1 rule 0 pays 0 odds 11", 2, 58);
        fault("parish nights 1 room 1 tooth 1 teeth 1 rule 0 pays 0 odds 1", 1, 59);
        int n = FIRST.length();
        fault(FIRST.replace(';', ','), 1, n - 1);
        fault(FIRST.replace(';', '.'), 1, n - 1);
        fault(FIRST.replace(';', ':'), 1, n - 1);
        fault(FIRST + "person ache 1 from 0 dear 1 bears 1. person", 1, n + 35);
        fault(FIRST + "parish", 1, n);
        fault(FIRST + ";", 1, n);
        fault(FIRST + " people", 1, n + 1);
        fault(FIRST + "person dear 1", 1, n + 7);
        fault(FIRST + "person ache 0", 2, n + 12);
        fault(FIRST + "person ache 21", 2, n + 12);
        fault(FIRST + "person ache 1 from 12", 2, n + 19);
        fault(FIRST + "person ache 1 from 0 dear 0", 2, n + 26);
        fault(FIRST + "person ache 1 from 0 dear 10", 2, n + 26);
        fault(FIRST + "person ache 1 from 0 dear 1 bears 21", 2, n + 34);
        fault(FIRST + "person ache 1 from 0 dear 1 bears 1 person", 1, n + 36);
        cutOff();
        String eight = FIRST + "person ache 1 from 0 dear 1 bears 1;".repeat(8);
        TeethingParish y = new TeethingParish();
        due("5: eight PERSONS", Checks.tell(y, eight), 9);
        due("5: eight PERSONS", y.count(7), 8);
        fault(eight + " person", 3, eight.length() + 1);
        fault(eight + "person ache 99", 3, eight.length());
        fault(eight + "ache", 1, eight.length());
    }

    /** What stood behind the end of the TAPE is not read. */
    private static void cutOff() {
        TeethingParish x = new TeethingParish();
        for (int n = 0; n < A.length(); n++) {
            TeethingParish y = new TeethingParish();
            Checks.feed(x, A);
            x.end(n);
            Checks.feed(y, A.substring(0, n));
            due("5: parish of the first " + n, x.parish(), y.parish());
            due("5: fault of the first " + n, x.fault(0), y.fault(0));
            due("5: place of the first " + n, x.fault(1), y.fault(1));
            x = new TeethingParish();
        }
        due("5: a full TAPE of blanks", Checks.tell(x, " ".repeat(700)), 0);
        due("5: a full TAPE", Checks.tell(x, FIRST + " ".repeat(700 - FIRST.length())), 1);
        fault("p".repeat(700), 1, 0);
        fault("parish nights " + "0".repeat(686), 2, 14);
        fault("parish nights " + "0".repeat(685) + "1", 1, 700);
        fault("parish" + " ".repeat(694), 1, 700);
    }

    private static void promise6() {
        TeethingParish x = Checks.told(A);
        due("6: ache", x.person(0, 0), 6);
        due("6: from", x.person(3, 1), 9);
        due("6: dear", x.person(2, 2), 3);
        due("6: bears", x.person(4, 3), 4);
        due("6: what", x.person(0, 4), -2);
        due("6: what below", x.person(0, -1), -2);
        due("6: PERSON", x.person(5, 0), -2);
        due("6: PERSON below", x.person(-1, 0), -2);
        x.ache(0, 9);
        x.comes(3, 2);
        due("6: ache now", x.person(0, 0), 9);
        due("6: from now", x.person(3, 1), 2);
    }

    /** Asks a call of ONE number for 0, 1, .. and for those on both sides of them, which are none such. */
    private interface Asked {
        long of(int n);
    }

    private static void row(String what, Asked call, long... want) {
        for (int n = 0; n < want.length; n++) {
            due(what + " of " + n, call.of(n), want[n]);
        }
        due(what + " behind", call.of(want.length), -2);
        due(what + " below", call.of(-1), -2);
        due(what + " far", call.of(Integer.MAX_VALUE), -2);
        due(what + " far below", call.of(Integer.MIN_VALUE), -2);
    }

    private static void promises7To10() {
        TeethingParish x = Checks.told(A);
        row("7: gives", x::gives, 0, 1, 1, -1, -1);
        row("8: given", x::given, 1, 6, 0, 0, 0);
        row("9: waits", x::waits, 2, 0, 0, 16, 16);
        row("10: left", x::left, 4, 1, 10, 10, 10);
        // The RULES; 5 and 5 do not both fit in a NIGHT with 3 and 4.
        String persons = "person ache 5 from 1 dear 1 bears 0;person ache 3 from 0 dear 1 bears 0;"
                + "person ache 5 from 0 dear 1 bears 0;person ache 4 from 1 dear 1 bears 0;"
                + "person ache 9 from 0 dear 1 bears 0;";
        String head = "parish nights 6 room 9 tooth 40 teeth 20 pays 0 odds 0;";
        row("7: RULE 0", Checks.told(head.replace("pays", "rule 0 pays") + persons)::gives, 1, 0, 0, 1, 2);
        row("7: RULE 1", Checks.told(head.replace("pays", "rule 1 pays") + persons)::gives, 1, 2, 2, 1, 0);
        row("7: RULE 2", Checks.told(head.replace("pays", "rule 2 pays") + persons)::gives, 1, 0, 0, 1, 2);
        row("7: RULE 3", Checks.told(head.replace("pays", "rule 3 pays") + persons)::gives, 2, 0, 0, 2, 1);
        // Of like ones the least number.
        for (int rule = 0; rule <= 3; rule++) {
            String like = "parish nights 3 room 9 tooth 40 teeth 20 rule " + rule + " pays 0 odds 0;"
                    + "person ache 9 from 0 dear 1 bears 0;".repeat(3);
            row("7: like ones by RULE " + rule, Checks.told(like)::gives, 0, 1, 2);
        }
    }

    private static void promises11To15() {
        TeethingParish x = Checks.told(A);
        row("11: bears", x::bears, 0, 5, 0, 0, 12);
        row("12: groans", x::groans, 5, 0, 0, 6, 6);
        due("13: all", x.all(), 17);
        due("14: worst", x.worst(), 4);
        due("15: crowded", x.crowded(), 0);
        x.comes(0, 3);
        due("13: nobody BEARS", x.all(), 0);
        due("14: worst, nobody", x.worst(), -1);
        due("15: crowded, none", x.crowded(), -1);
        x.anew();
        x.comes(1, 2);
        due("15: crowded later", x.crowded(), 3);
        // 6 times 1 and 3 times 2: the first of several.
        TeethingParish y = Checks.told("parish nights 2 room 1 tooth 1 teeth 1 rule 0 pays 0 odds 0;"
                + "person ache 2 from 1 dear 1 bears 0;person ache 3 from 1 dear 2 bears 0;"
                + "person ache 6 from 1 dear 1 bears 0;");
        due("14: the first of several", y.worst(), 1);
        due("15: crowded later", y.crowded(), 1);
        y.comes(1, 2);
        y.ache(0, 2);
        y.comes(2, 2);
        y.ache(0, 1);
        due("14: nobody", y.worst(), -1);
        TeethingParish z = Checks.told("parish nights 1 room 1 tooth 1 teeth 1 rule 0 pays 0 odds 0;"
                + "person ache 1 from 0 dear 1 bears 0;person ache 1 from 0 dear 1 bears 0;");
        due("14: one ache alone", z.worst(), 1);
    }

    private static void promises16To19() {
        TeethingParish x = Checks.told(A);
        row("16: holds", x::holds, 6, 1, 1, 1, 1);
        row("17: cut", x::cut, 0, 2, 2, 2, 2);
        due("18: feast", x.feast(), 1);
        due("19: paid", x.paid(), 6);
        x.comes(0, 10);
        row("16: holds without 6", x::holds, 5, 2, 2, 5, 5);
        row("17: cut without 6", x::cut, 0, 1, 1, 1, 1);
        due("18: no FEAST", x.feast(), -1);
        due("19: paid for one", x.paid(), 3);
        // More than tooth times teeth is HELD on.
        TeethingParish y = Checks.told("parish nights 2 room 30 tooth 2 teeth 3 rule 0 pays 2 odds 0;"
                + "person ache 19 from 0 dear 1 bears 0;");
        row("16: holds what is too much", y::holds, 13, 13);
        row("17: cut three at once", y::cut, 3, 3);
        due("18: FEAST at once", y.feast(), 0);
        due("19: paid for three", y.paid(), 6);
    }

    private static void promises20To23() {
        TeethingParish x = Checks.told(A);
        due("20: quiet", x.quiet(), 2 + 4);
        due("21: kept", x.kept(), 8 + 16);
        due("22: idle", x.idle(), 4 + 8 + 16);
        row("23: big", x::big, 0, 1, -1, -1, -1);
        x.ache(1, 4);
        row("23: big, the first of several", x::big, 0, 2, -1, -1, -1);
        due("20: quiet", Checks.told(NO_PERSON).quiet(), 7);
        due("21: kept", Checks.told(NO_PERSON).kept(), 0);
        due("22: idle", Checks.told(NO_PERSON).idle(), 7);
        // 1 and 1 in one NIGHT: the first.
        TeethingParish y = Checks.told("parish nights 1 room 9 tooth 1 teeth 1 rule 0 pays 0 odds 0;"
                + "person ache 1 from 0 dear 1 bears 0;person ache 1 from 0 dear 1 bears 0;");
        row("23: big of like ones", y::big, 0);
    }

    private static void promise24() {
        TeethingParish x = Checks.told(A);
        due("24: suits 0", x.suits(0), 3);
        due("24: suits 4", x.suits(4), 0);
        due("24: all stays", x.all(), 17);
        due("24: none such", x.suits(5), -2);
        due("24: none such", x.suits(-1), -2);
        due("24: without PARISH", new TeethingParish().suits(0), -2);
        // Least is borne when he never comes.
        TeethingParish y = Checks.told("parish nights 2 room 3 tooth 40 teeth 1 rule 0 pays 0 odds 0;"
                + "person ache 4 from 0 dear 1 bears 0;");
        due("24: the least of those that never come", y.suits(0), 2);
    }

    private static void promises25And26() {
        TeethingParish x = Checks.told(A);
        due("25: last", x.last(), 1);
        row("26: gap", x::gap, 0, 1, 0, -1, -1);
        x.comes(0, 3);
        due("25: last later", x.last(), 3);
        due("25: nobody", Checks.told(NO_PERSON).last(), -1);
    }

    private static void promises27And28() {
        TeethingParish x = Checks.told(A);
        row("27: without", x::without, 0, 0, 5, 17, 5);
        row("28: blocks", x::blocks, 2 + 16, 16, 16, 0, 0);
    }

    private static void promises29And30() {
        TeethingParish x = Checks.told(A);
        due("29: when 0", x.when(0), -2);
        due("29: when 1", x.when(1), 1);
        due("29: when 2", x.when(2), 1);
        due("29: when 3", x.when(3), -1);
        due("29: when 20", x.when(20), -1);
        due("29: when 21", x.when(21), -2);
        due("29: no PARISH", new TeethingParish().when(1), -2);
        due("30: share 1", x.share(1, 0), 5);
        due("30: share 1 below", x.share(1, 1), 17);
        due("30: share 0", x.share(0, 0), 0);
        due("30: share 0 below", x.share(0, 1), 1);
        due("30: what", x.share(0, 2), -2);
        due("30: what below", x.share(0, -1), -2);
        due("30: PERSON", x.share(5, 0), -2);
        x.ache(4, 5);
        // 5 of 25.
        due("30: lowest terms", x.share(1, 0), 1);
        due("30: lowest terms below", x.share(1, 1), 5);
        x.comes(0, 3);
        x.ache(4, 3);
        due("30: nobody BEARS", x.share(1, 0), -1);
        due("30: none such ahead", x.share(1, 2), -2);
    }

    private static void promise31() {
        TeethingParish x = Checks.told(A);
        due("31: by none", x.wide(), -1);
        TeethingParish y = Checks.told("parish nights 3 room 1 tooth 40 teeth 20 rule 0 pays 0 odds 0;"
                + "person ache 20 from 0 dear 1 bears 0;".repeat(8));
        due("31: all at once", y.wide(), 160);
        y.comes(0, 1);
        due("31: one later", y.wide(), 140);
        due("31: nobody", Checks.told(NO_PERSON).wide(), 1);
        due("31: no PARISH", new TeethingParish().wide(), -2);
    }

    private static void promise32() {
        TeethingParish x = Checks.told(A);
        int[][] due = {{0, 0}, {2, 0}, {3, 1}, {6, 1}, {7, 2}, {11, 2}, {12, 3}, {25, 4}, {26, 5}, {160, 5}};
        for (int[] each : due) {
            due("32: mild " + each[0], x.mild(each[0]), each[1]);
        }
        due("32: below", x.mild(-1), -2);
        due("32: above", x.mild(161), -2);
        due("32: no PARISH", new TeethingParish().mild(1), -2);
    }

    private static void promises33And37To40() {
        TeethingParish x = Checks.told(A);
        due("37: least", x.least(), 25);
        due("33: regret", x.regret(), -8);
        row("38: plan", x::plan, 0, -1, 1, -1, 3);
        due("39: ways", x.ways(), 1);
        int[][] rooms = {{25, 6}, {24, -1}, {59, 6}, {60, 5}, {84, 5}, {85, 4}, {132, 4}, {133, 3}, {144, 3}, {145, 1},
            {0, -1}, {20_000, 1}, {-1, -2}, {20_001, -2}};
        for (int[] each : rooms) {
            due("40: room " + each[0], x.room(each[0]), each[1]);
        }
        due("40: least stays", x.least(), 25);
        // Two alike for one place: NONE first.
        TeethingParish y = Checks.told("parish nights 1 room 5 tooth 5 teeth 1 rule 0 pays 0 odds 0;"
                + "person ache 5 from 0 dear 2 bears 0;person ache 5 from 0 dear 2 bears 0;");
        due("37: one of two", y.least(), 10);
        due("39: two ways", y.ways(), 2);
        row("38: NONE first", y::plan, -1, 0);
        TeethingParish roomy = Checks.told("parish nights 1 room 5 tooth 10 teeth 1 rule 0 pays 0 odds 0;"
                + "person ache 5 from 0 dear 2 bears 0;person ache 5 from 0 dear 2 bears 0;");
        due("39: two ways", roomy.ways(), 2);
        due("40: room for both", roomy.room(0), 10);
        due("39: two ways as before", roomy.ways(), 2);
        due("40: room for one", roomy.room(10), 5);
        due("39: two ways still", roomy.ways(), 2);
        row("38: as before", roomy::plan, -1, 0);
        due("37: as before", roomy.least(), 10);
        // Night by night the earlier one of those who cost alike.
        TeethingParish z = Checks.told("parish nights 3 room 5 tooth 5 teeth 9 rule 0 pays 0 odds 0;"
                + "person ache 5 from 0 dear 2 bears 0;person ache 5 from 0 dear 2 bears 0;"
                + "person ache 5 from 11 dear 2 bears 0;");
        due("37: one behind the other", z.least(), 10);
        due("39: either ahead", z.ways(), 2);
        row("38: the least row", z::plan, 0, 1, -1);
        due("33: no regret", z.regret(), 0);
        due("39: the empty PLAN", Checks.told(NO_PERSON).ways(), 1);
        due("37: nobody", Checks.told(NO_PERSON).least(), 0);
        due("40: nobody", Checks.told(NO_PERSON).room(0), 1);
        x.ache(2, 3);
        // 6, 5 and 3 are tooth times teeth: 12 of the other 3, and 5 as 6 and 5 are not for one NIGHT.
        due("37: after an act", x.least(), 17);
        x.ache(1, 1);
        due("37: after another act", x.least(), 0);
        due("38: after another act", x.plan(1), 0);
    }

    private static void promises41And42() {
        TeethingParish x = Checks.told(A);
        row("41: by", x::by, 17, 17, 24, 17);
        due("42: rule", x.rule(), 0);
        due("42: the RULE told stays", x.count(4), 0);
        due("41: no PARISH", new TeethingParish().by(0), -2);
        TeethingParish y = Checks.told("parish nights 2 room 5 tooth 9 teeth 9 rule 0 pays 0 odds 0;"
                + "person ache 2 from 0 dear 1 bears 0;person ache 5 from 0 dear 1 bears 0;");
        row("41: by", y::by, 5, 2, 5, 5);
        due("42: rule", y.rule(), 1);
    }

    private static void promises43To45() {
        TeethingParish x = Checks.told(A);
        row("43: groan by RULE 0", x::groan, -1, -1, -1, -1, -1);
        row("44: tempts", x::tempts, 0, 2, 0, 0);
        due("45: proof", x.proof(), 1 + 4 + 8);
        due("44: no PARISH", new TeethingParish().tempts(0), -2);
        TeethingParish y = Checks.told(A.replace("rule 0", "rule 1"));
        row("43: groan by RULE 1", y::groan, -1, 2, -1, -1, -1);
        // Of like ones the least number is first, so he who stands behind needs one more.
        TeethingParish z = Checks.told("parish nights 2 room 20 tooth 40 teeth 9 rule 1 pays 0 odds 0;"
                + "person ache 1 from 0 dear 1 bears 0;person ache 20 from 0 dear 1 bears 0;");
        row("43: as great", z::groan, 19, -1);
        TeethingParish w = Checks.told("parish nights 2 room 20 tooth 40 teeth 9 rule 1 pays 0 odds 0;"
                + "person ache 20 from 0 dear 1 bears 0;person ache 1 from 0 dear 1 bears 0;");
        row("43: greater", w::groan, -1, 20);
    }

    private static void promises34And35And46To48() {
        TeethingParish x = Checks.told(A);
        due("46: pairs", x.pairs(), 4);
        row("47: bearer", x::bearer, 1, 0, 4, -1, 3);
        due("34: spoons", x.spoons(), 1 + 2 + 8 + 16);
        due("35: lonely", x.lonely(), 8);
        due("48: nobody", x.kinder(0), 0);
        due("48: he alone", x.kinder(8), -1);
        due("48: two", x.kinder(9), 3);
        due("48: all", x.kinder(31), 3);
        due("48: no such set", x.kinder(32), -2);
        due("48: no such set", x.kinder(-1), -2);
        due("46: pairs again", x.pairs(), 4);
        due("48: no PERSON", Checks.told(NO_PERSON).kinder(0), 0);
        due("48: no PERSON", Checks.told(NO_PERSON).kinder(1), -2);
        due("46: no PERSON", Checks.told(NO_PERSON).pairs(), 0);
        // Who bears nothing needs 20 for an ache of 20; for two of the set one more way round.
        TeethingParish y = Checks.told(FIRST + "person ache 20 from 0 dear 1 bears 0;".repeat(2));
        due("48: 20 more", y.kinder(3), 20);
        due("48: who is not of the set bears no more", y.kinder(1), -1);
        due("46: none", y.pairs(), 0);
        due("35: all lonely", y.lonely(), 3);
        // One can bear for either: the first PERSON has him.
        TeethingParish z = Checks.told(FIRST + "person ache 5 from 0 dear 1 bears 0;".repeat(2)
                + "person ache 9 from 0 dear 1 bears 5;");
        row("47: NONE last", z::bearer, 2, -1, -1);
        due("46: one", z.pairs(), 1);
    }

    private static void promises49To52() {
        TeethingParish x = Checks.told(A);
        Checks.fill(x, 0, 0, 1, 2);
        suspects(x, 0, 8 + 16 + 256, 3, -1, 3);
        Checks.fill(x, 1, 3, 1, 1);
        suspects(x, 1, 1 + 2 + 4, 3, 3, 2);
        Checks.fill(x, 2, 1);
        suspects(x, 2, 31 + 256, 6, 1, 3);
        Checks.fill(x, 2, 2, 1, 1, 3, 2);
        suspects(x, 2, 4, 1, -1, 1);
        Checks.fill(x, 2, 2, 0, 20);
        suspects(x, 2, 0, 0, -1, 0);
        suspects(x, 3, -6, -6, -6, -6);
        suspects(x, 4, -2, -2, -2, -2);
        suspects(x, -1, -2, -2, -2, -2);
        Checks.fill(x, 0, 0, 1, 2, 3);
        suspects(x, 0, -2, -2, -2, -2);
        long[][] wrong = {{5, 0}, {-1, 0}, {0, 21}, {0, -1}, {1, 2, 0, 21}, {1, 2, 5, 2}};
        for (long[] each : wrong) {
            Checks.fill(x, 0, 0, each);
            suspects(x, 0, -2, -2, -2, -2);
        }
        Checks.fill(x, 0, 3, 1L << 32, 0);
        suspects(x, 0, -2, -2, -2, -2);
        due("49: without KEPT BACK nothing is changed", x.all(), 17);
        TeethingParish y = new TeethingParish();
        suspects(y, 0, -2, -2, -2, -2);
        suspects(Checks.told(NO_PERSON), 0, -6, -6, -6, -6);
        TeethingParish z = Checks.told(NO_PERSON);
        Checks.fill(z, 0, 0, 2, 0);
        suspects(z, 0, 256, 1, -1, 1);
        TeethingParish w = Checks.told("parish nights 1 room 20 tooth 1 teeth 20 rule 0 pays 0 odds 0;"
                + "person ache 20 from 0 dear 1 bears 0;");
        Checks.fill(w, 0, 0);
        suspects(w, 0, 1 + 256, 2, 0, 1);
        Checks.fill(w, 0, 0, 0, 20);
        suspects(w, 0, 256, 1, -1, 1);
    }

    private static void suspects(TeethingParish x, int slot, int whose, int fits, int ask, int leaves) {
        due("49: whose " + slot, x.whose(slot), whose);
        due("50: fits " + slot, x.fits(slot), fits);
        due("51: ask " + slot, x.ask(slot), ask);
        due("52: leaves " + slot, x.leaves(slot), leaves);
    }

    private static void promises36And53() {
        TeethingParish x = Checks.told(A);
        int[][] due = {{0, 0}, {1, 1}, {3, 2}, {5, 1}, {9, 2}, {11, 3}, {31, 3}, {32, -2}, {-1, -2}};
        for (int[] each : due) {
            due("53: nights " + each[0], x.nights(each[0]), each[1]);
            due("36: costs " + each[0], x.costs(each[0]), each[1] < 0 ? each[1] : 3 * each[1]);
        }
        x.widen(7);
        due("53: an ache too great", x.nights(31), -1);
        due("36: an ache too great", x.costs(8), -1);
        due("53: without it", x.nights(23), 3);
        due("36: without it", x.costs(23), 9);
        due("53: no PERSON", Checks.told(NO_PERSON).nights(0), 0);
        due("53: no such", Checks.told(NO_PERSON).nights(1), -2);
        due("36: no PARISH", new TeethingParish().costs(0), -2);
        // 4 4 3 3 3 3 in 10: the greatest first would take three.
        TeethingParish y = Checks.told(FIRST + "person ache 4 from 0 dear 1 bears 0;".repeat(2)
                + "person ache 3 from 0 dear 1 bears 0;".repeat(4));
        due("53: whole aches", y.nights(63), 2);
        // More NIGHTS than the PARISH has.
        TeethingParish z = Checks.told(NO_PERSON + "person ache 1 from 0 dear 1 bears 0;".repeat(8));
        due("53: more than there are", z.nights(255), 8);
        due("36: more than there are", z.costs(255), 8 * 99);
    }

    private static void promises54And55() {
        TeethingParish x = Checks.told(A);
        shares(x, 1, -1, 3, 3, 0, 3, 0);
        shares(x, 0, 17, 3, 3, 0, 3, 1);
        shares(x, 0, -1, 3, 3, 0, 2, 0);
        shares(x, 0, 1, 9, 0, 0, 0, 0);
        shares(x, 0, 16, 1, 1, 1, 2, 4);
        shares(x, -2, -2, 3, 3, 0, 3);
        shares(x, -2, -2, 3, 3, 0, 3, 0, 0);
        shares(x, -2, -2, 1000, 3, 0, 3, 0);
        shares(x, -2, -2, 3, 3, 0, 3, -1);
        shares(x, 0, 1, 999, 999, 999, 999, 999);
        due("54: nothing", x.fair(3), -6);
        due("55: nothing", x.leave(3), -6);
        due("54: no such SLOT", x.fair(4), -2);
        due("55: no such SLOT", x.leave(-1), -2);
        due("54: no PARISH", new TeethingParish().fair(0), -2);
        x.widen(7);
        // PERSON 3 is without COST, and so are all.
        shares(x, 0, -1, 3, 3, 0, 999, 0);
        shares(x, 0, 1, 4, 3, 0, 0, 0);
        shares(Checks.told(NO_PERSON), 1, -1);
    }

    private static void shares(TeethingParish x, int fair, int leave, long... row) {
        Checks.fill(x, 1, 1, row);
        due("54: fair", x.fair(1), fair);
        due("55: leave", x.leave(1), leave);
    }

    private static void promises56To58() {
        TeethingParish x = Checks.told("parish nights 4 room 6 tooth 40 teeth 1 rule 0 pays 0 odds 0;"
                + "person ache 6 from 0 dear 1 bears 0;person ache 6 from 0 dear 1 bears 0;");
        // The first GIVES as soon as he will; the second then too, or a NIGHT later if it is the same one.
        for (int i = 0; i < 4; i++) {
            for (int k = 0; k < 4; k++) {
                due("58: first holds " + i + k, x.holding(0, 1, i, k), 6 * i);
                due("58: second holds " + i + k, x.holding(1, 0, k, i), 6 * (i == k ? k + 1 : k));
            }
        }
        // The second BEARS 6 for 0 and 1, if the first holds back 0; and the first never gains by more.
        due("56: rests", x.rests(0, 1), 2);
        due("57: rest", x.rest(0, 1), 0);
        due("57: rest", x.rest(1, 0), 0);
        due("58: all stays", x.all(), 6);
        int[][] wrong = {{0, 0}, {0, 2}, {2, 0}, {-1, 0}, {0, -1}};
        for (int[] each : wrong) {
            due("56: none such", x.rests(each[0], each[1]), -2);
            due("57: none such", x.rest(each[0], each[1]), -2);
            due("58: none such", x.holding(each[0], each[1], 0, 0), -2);
        }
        due("58: x", x.holding(0, 1, 4, 0), -2);
        due("58: x below", x.holding(0, 1, -1, 0), -2);
        due("58: y", x.holding(0, 1, 0, 4), -2);
        due("58: y below", x.holding(0, 1, 0, -1), -2);
    }

    private static void promises59To61() {
        TeethingParish x = Checks.told(A);
        long[] above = {1, 3, 7, 15, 31};
        long[] below = {2, 4, 8, 16, 32};
        row("59: born", n -> x.born(n, 0), above);
        row("59: born, below", n -> x.born(n, 1), below);
        due("59: what", x.born(0, 2), -2);
        due("59: what below", x.born(0, -1), -2);
        row("61: late", x::late, 17, 34, 51, 86, 121);
        due("60: mean", x.mean(0), 593);
        due("60: mean, below", x.mean(1), 16);
        due("60: what", x.mean(2), -2);
        due("60: what below", x.mean(-1), -2);
        due("60: all stays", x.all(), 17);
        TeethingParish never = Checks.told(A.replace("odds 5", "odds 0"));
        due("59: never", never.born(4, 0), 0);
        due("59: never, below", never.born(4, 1), 1);
        due("60: never", never.mean(0), 145);
        due("60: never, below", never.mean(1), 1);
        TeethingParish ever = Checks.told(A.replace("odds 5", "odds 10"));
        due("59: ever", ever.born(0, 0), 1);
        due("59: ever, below", ever.born(0, 1), 1);
        due("60: ever", ever.mean(0), 17);
        TeethingParish most = Checks.told("parish nights 12 room 1 tooth 40 teeth 20 rule 0 pays 99 odds 1;"
                + "person ache 20 from 0 dear 9 bears 20;".repeat(8));
        due("59: twelve NIGHTS", most.born(11, 0), 1_000_000_000_000L - 282_429_536_481L);
        due("59: twelve NIGHTS, below", most.born(11, 1), 1_000_000_000_000L);
        due("60: the most", most.mean(0), 17_280);
        due("60: the most, below", most.mean(1), 1);
        due("60: nobody", Checks.told(NO_PERSON).mean(0), 0);
        due("60: nobody, below", Checks.told(NO_PERSON).mean(1), 1);
    }

    private static void promises62To65() {
        TeethingParish x = Checks.told(A);
        due("62: ache", x.ache(0, 20), 6);
        due("62: ache again", x.ache(0, 1), 20);
        due("63: comes", x.comes(4, 11), 3);
        due("63: comes again", x.comes(4, 0), 11);
        due("62: the same", x.ache(0, 1), 1);
        int[][] wrong = {{0, 0}, {0, 21}, {5, 1}, {-1, 1}};
        for (int[] each : wrong) {
            due("62: none such", x.ache(each[0], each[1]), -2);
        }
        int[][] wrongFrom = {{0, -1}, {0, 12}, {5, 1}, {-1, 1}};
        for (int[] each : wrongFrom) {
            due("63: none such", x.comes(each[0], each[1]), -2);
        }
        due("62: acts", x.count(8), 5);
        due("64: undo", x.undo(), 4);
        due("64: undo", x.undo(), 3);
        due("64: taken back", x.person(4, 1), 11);
        due("64: undo", x.undo(), 2);
        due("64: taken back", x.person(4, 1), 3);
        due("64: undo", x.undo(), 1);
        due("64: taken back", x.person(0, 0), 20);
        due("64: undo", x.undo(), 0);
        due("64: as told", x.person(0, 0), 6);
        due("64: as told", x.all(), 17);
        due("64: none", x.undo(), -5);
        due("65: none", x.anew(), 0);
        for (int n = 0; n < 30; n++) {
            due("62: thirty", n % 2 == 0 ? x.ache(1, 20) : x.comes(1, 7), n == 0 ? 5 : n == 1 ? 0 : n % 2 == 0 ? 20 : 7);
        }
        due("62: too many", x.ache(1, 1), -5);
        due("63: too many", x.comes(1, 1), -5);
        due("62: none such ahead", x.ache(1, 21), -2);
        due("63: none such ahead", x.comes(1, 12), -2);
        due("64: undo", x.undo(), 29);
        due("62: room for one", x.ache(1, 19), 20);
        due("65: anew", x.anew(), 30);
        due("65: as told", x.person(1, 0), 5);
        due("65: as told", x.person(1, 1), 0);
        due("65: as told", x.all(), 17);
        due("65: none is left", x.count(8), 0);
        due("64: no PARISH", new TeethingParish().undo(), -2);
        due("65: no PARISH", new TeethingParish().anew(), -2);
        due("62: no PARISH", new TeethingParish().ache(0, 1), -2);
    }

    private static void promises66And67() {
        TeethingParish x = Checks.told(A);
        // Draws from 1: 8, 8, 3, 5, 1.
        due("66: from 0", x.drawn(0, 0), 0);
        due("66: all from 0", x.drawn(0, 1), 17);
        due("66: from 1", x.drawn(1, 0), 2);
        due("66: all from 1", x.drawn(1, 1), 51);
        TeethingParish three = Checks.told(A.replace("odds 5", "odds 3"));
        due("66: 3 is not below 3", three.drawn(1, 0), 4);
        TeethingParish one = Checks.told(A.replace("odds 5", "odds 1"));
        due("66: none", one.drawn(1, 0), -1);
        due("66: all by none", one.drawn(1, 1), 145);
        due("66: seed below", x.drawn(-1, 0), -2);
        due("66: seed above", x.drawn(2_000_000_001, 0), -2);
        due("66: the last seed", x.drawn(2_000_000_000, 0), drawnNight(2_000_000_000L, 5));
        due("66: what", x.drawn(1, 2), -2);
        due("66: what below", x.drawn(1, -1), -2);
        due("66: no PARISH", new TeethingParish().drawn(1, 0), -2);
        due("67: two years", x.luck(0, 2, 1), 2);
        due("67: one of two", x.luck(0, 2, 4), 1);
        due("67: none of one", x.luck(0, 1, 4), 0);
        due("67: the other", x.luck(1, 1, 4), 1);
        due("67: no child, no gift", one.luck(1, 1, 0), 0);
        due("67: n", x.luck(0, 0, 0), -2);
        due("67: n above", x.luck(0, 21, 0), -2);
        due("67: seed", x.luck(-1, 1, 0), -2);
        due("67: seed above", x.luck(2_000_000_001, 1, 0), -2);
        due("67: PERSON", x.luck(0, 1, 5), -2);
        due("67: PERSON below", x.luck(0, 1, -1), -2);
        int lucky = 0;
        for (long seed = 2_000_000_000L; seed < 2_000_000_020L; seed++) {
            lucky += drawnNight(seed, 5) != -1 ? 1 : 0;
        }
        due("67: seeds behind the last", x.luck(2_000_000_000, 20, 0), lucky);
        due("67: all stays", x.all(), 17);
    }

    private static int drawnNight(long seed, int odds) {
        java.math.BigInteger x = java.math.BigInteger.valueOf(seed);
        java.math.BigInteger modulo = java.math.BigInteger.valueOf(1L << 31);
        for (int night = 0; night < 5; night++) {
            x = x.multiply(java.math.BigInteger.valueOf(1_103_515_245L)).add(java.math.BigInteger.valueOf(12_345L));
            x = x.mod(modulo);
            if (x.longValue() / 65_536 % 10 < odds) {
                return night;
            }
        }
        return -1;
    }

    private static void promises68And69() {
        TeethingParish x = Checks.told(A);
        due("68: widen", x.widen(60), 10);
        due("68: room now", x.count(1), 60);
        due("68: left now", x.left(4), 60);
        due("68: widen again", x.widen(1), 60);
        due("68: nobody GIVES", x.kept(), 31);
        due("68: below", x.widen(0), -2);
        due("68: above", x.widen(61), -2);
        x.ache(0, 3);
        due("68: acts", x.widen(5), -5);
        due("68: none such ahead", x.widen(61), -2);
        due("68: room stays", x.count(1), 1);
        x.undo();
        due("68: acts taken back", x.widen(5), 1);
        due("68: no PARISH", new TeethingParish().widen(5), -2);
        TeethingParish y = Checks.told("parish nights 5 room 10 tooth 7 teeth 2 rule 3 pays 8 odds 4;"
                + "person ache 1 from 0 dear 1 bears 0;");
        y.comes(0, 1);
        y.feed(0, 0, 0, 0, 0);
        y.row(0, 0, 0);
        y.row(3, 1, 60);
        y.row(3, 1, 6);
        long[] due = {5, 10, 7, 2, 3, 8, 4, 1, 1, 2, 20, 2, -1, -1};
        for (int what = 0; what < due.length; what++) {
            due("69: count " + what, y.count(what), due[what]);
        }
        due("69: below", y.count(-1), -1);
        due("69: far below", y.count(Integer.MIN_VALUE), -1);
    }

    private static void promises70And71() {
        TeethingParish x = Checks.told(A);
        due("71: nothing", x.back(0), -6);
        due("71: no such", x.back(3), -2);
        due("71: no such", x.back(-1), -2);
        due("70: no such", x.image(3), -2);
        due("70: no such", x.image(-1), -2);
        x.ache(0, 9);
        due("70: image", x.image(0), 0);
        x.comes(0, 3);
        due("70: another image", x.image(2), 0);
        x.anew();
        x.widen(3);
        Checks.tell(x, NO_PERSON);
        x.row(1, 0, 3);
        x.feed(1, 2, 3, 4, 5);
        due("71: back", x.back(0), 0);
        due("71: room", x.count(1), 10);
        due("71: ache", x.person(0, 0), 9);
        due("71: from", x.person(0, 1), 0);
        due("71: acts", x.count(8), 1);
        due("71: gives", x.gives(0), 0);
        due("71: SLOTS stay", x.count(11), 1);
        due("71: the TAPE stays", x.count(10), 20);
        due("71: undo", x.undo(), 0);
        due("71: ache", x.person(0, 0), 6);
        due("71: all", x.all(), 17);
        due("71: the other one", x.back(2), 0);
        due("71: from", x.person(0, 1), 3);
        due("71: undo", x.undo(), 1);
        due("71: it is kept", x.back(2), 0);
        due("71: from", x.person(0, 1), 3);
        due("71: the third has nothing", x.back(1), -6);
        x.anew();
        x.comes(2, 7);
        x.ache(1, 12);
        x.comes(1, 8);
        x.back(0);
        due("71: its own acts", x.undo(), 0);
        due("71: its own acts are taken back", x.person(0, 0), 6);
        due("71: no others", x.person(1, 0), 5);
        due("71: no others", x.person(2, 1), 1);
        due("71: no others", x.person(1, 1), 0);
        TeethingParish y = new TeethingParish();
        due("70: no PARISH is kept", y.image(1), 0);
        Checks.tell(y, A);
        due("71: back to none", y.back(1), 0);
        due("71: there is none", y.all(), -2);
        due("71: there is none", y.count(9), 0);
    }

    private static void promise72() {
        TeethingParish x = Checks.told(A);
        due("72: row", x.row(0, 3, 60), 0);
        due("72: SLOT", x.row(4, 0, 1), -2);
        due("72: SLOT below", x.row(-1, 0, 1), -2);
        due("72: WIDTH", x.row(0, 4, 1), -2);
        due("72: WIDTH below", x.row(0, -1, 1), -2);
        due("72: too many", x.row(0, 0, 61), -2);
        due("72: below", x.row(0, 0, -1), -3);
        due("72: far below", x.row(0, 0, Integer.MIN_VALUE), -3);
        due("72: no such SLOT ahead", x.row(4, 0, -1), -2);
        due("72: the SLOT stays", x.write(0, 59, 1), 0);
        due("72: nothing yet", x.row(1, 0, -1), -3);
        due("72: nothing yet", x.write(1, 0, 0), -6);
        Checks.fill(x, 0, 1, 3, 3, 0, 3, 0);
        due("72: told", x.fair(0), 1);
        due("72: in place of another one", x.row(0, 1, 5), 0);
        due("72: all 0", x.leave(0), -1);
        due("72: all 0", x.fair(0), 0);
        due("72: no number", x.row(2, 2, 0), 0);
        due("72: no number", x.write(2, 0, 0), -7);
    }

    private static void promise73() {
        TeethingParish x = Checks.told(A);
        due("73: nothing", x.write(0, 0, 1), -6);
        due("73: no such SLOT", x.write(4, 0, 1), -2);
        due("73: no such SLOT", x.write(-1, 0, 1), -2);
        x.row(0, 0, 2);
        due("73: behind", x.write(0, 2, 1), -7);
        due("73: below", x.write(0, -1, 1), -7);
        due("73: write", x.write(0, 1, 1), 0);
        // NIGHT 1 and one TOOTH, with more that is cut off.
        int[] bits = {8, 16, 32};
        for (int width = 0; width < 3; width++) {
            Checks.fill(x, 0, width, 1 + (7L << bits[width]), 1 - (1L << bits[width]));
            due("73: cut to WIDTH " + width, x.whose(0), 7);
            Checks.fill(x, 0, width, 1, 1 + (1L << bits[width] - 1));
            due("73: below 0 in WIDTH " + width, x.whose(0), -2);
        }
        Checks.fill(x, 0, 3, 1 + (7L << 32), 1);
        due("73: nothing is cut off in WIDTH 3", x.whose(0), -2);
        // A number of one byte is one of Java's: 200 is below 0.
        Checks.fill(x, 1, 0, 3, 3, 0, 3, 200);
        due("73: one byte", x.fair(1), -2);
        Checks.fill(x, 1, 1, 3, 3, 0, 3, 200);
        due("73: two bytes", x.fair(1), 0);
    }

    private static void promise74() {
        TeethingParish x = Checks.told(A);
        due("74: nothing", x.paste(0, 0, 0, 0, 0), -6);
        due("74: no such SLOT", x.paste(4, 0, 0, 0, 0), -2);
        due("74: no such SLOT", x.paste(0, 0, -1, 0, 0), -2);
        Checks.fill(x, 0, 1, 3, 3, 0, 3, 0, 7);
        due("74: the other one has nothing", x.paste(0, 0, 1, 0, 0), -6);
        due("74: the one has nothing", x.paste(1, 0, 0, 0, 0), -6);
        x.row(1, 1, 5);
        x.row(2, 2, 5);
        due("74: WIDTH", x.paste(0, 0, 2, 0, 1), -8);
        due("74: WIDTH ahead", x.paste(0, -1, 2, 0, 99), -8);
        int[][] beyond = {{-1, 0, 1}, {0, -1, 1}, {0, 0, -1}, {0, 0, 6}, {2, 0, 5}, {0, 1, 5}, {7, 0, 0}, {0, 6, 0},
            {0, 0, Integer.MAX_VALUE}, {Integer.MAX_VALUE, 0, 1}, {0, Integer.MAX_VALUE, Integer.MAX_VALUE}};
        for (int[] each : beyond) {
            due("74: beyond " + each[0] + " " + each[1] + " " + each[2], x.paste(0, each[0], 1, each[1], each[2]), -7);
        }
        due("74: nothing happened", x.leave(1), -1);
        due("74: none from the end", x.paste(0, 6, 1, 5, 0), 0);
        due("74: paste", x.paste(0, 0, 1, 0, 5), 0);
        due("74: pasted", x.fair(1), 1);
        due("74: from the second to the first", x.paste(0, 1, 1, 0, 5), 0);
        // 3 0 3 0 7: PERSONS 0 and 2 pay 6 for one NIGHT.
        due("74: pasted", x.leave(1), 5);
        Checks.fill(x, 1, 1, 3, 0, 3, 0, 0);
        due("74: over itself, behind", x.paste(1, 0, 1, 1, 4), 0);
        // 3 3 0 3 0.
        due("74: as they were", x.fair(1), 1);
        Checks.fill(x, 1, 1, 9, 3, 3, 0, 3);
        due("74: over itself, ahead", x.paste(1, 1, 1, 0, 4), 0);
        x.write(1, 4, 0);
        due("74: as they were", x.fair(1), 1);
    }
}
