/** Edges of the TAPE, of the text and its FAULTS: Term I, promises 1 to 6. */
final class TextEdges {
    private static final String FIRST = Edges.head(5, 10, 7, 2, 0, 3, 5);
    private static final String ONE = Edges.one(1, 0, 1, 0);
    private static final String[] WORDS = {"nights", "room", "tooth", "teeth", "rule", "pays", "odds"};
    private static final int[] LEAST = {1, 1, 1, 1, 0, 0, 0};
    private static final int[] MOST = {12, 60, 40, 20, 3, 99, 10};
    private static final String[] WORDS_OF_ONE = {"ache", "from", "dear", "bears"};
    private static final int[] LEAST_OF_ONE = {1, 0, 1, 0};
    private static final int[] MOST_OF_ONE = {20, 11, 9, 20};

    private TextEdges() {
    }

    static void all() {
        lines();
        bounds();
        persons();
        blanks();
        longestTokens();
        faults();
        newObject();
        feed();
        end();
        parish();
        fault();
        person();
    }

    private static void due(String call, long got, long want) {
        Edges.due(call, got, want);
    }

    private static void faulty(String text, int fault, int place) {
        TeethingParish x = new TeethingParish();
        due("parish() of '" + text + "'", Checks.tell(x, text), -4);
        due("fault(0) of '" + text + "'", x.fault(0), fault);
        due("fault(1) of '" + text + "'", x.fault(1), place);
    }

    private static void good(String text, int lines) {
        TeethingParish x = new TeethingParish();
        due("parish() of '" + text + "'", Checks.tell(x, text), lines);
        due("fault(0) of '" + text + "'", x.fault(0), 0);
        due("fault(1) of '" + text + "'", x.fault(1), -1);
    }

    /** Puts a text behind what the TAPE has: how many bytes it has then. */
    private static int append(TeethingParish x, String text) {
        int length = x.count(10) + text.length();
        for (int i = 0; i < text.length(); i += 20) {
            int[] four = new int[5];
            for (int k = i; k < i + 20; k++) {
                int sign = k < text.length() ? text.charAt(k) : 0;
                four[(k - i) / 4] = four[(k - i) / 4] << 8 | sign;
            }
            x.feed(four[0], four[1], four[2], four[3], four[4]);
        }
        return x.end(length);
    }

    // Term I.

    private static void lines() {
        Edges.term("PARISH: {LINE ;}.");
        good("", 0);
        good(" ", 0);
        good(FIRST, 1);
        good(FIRST + ONE.repeat(8), 9);
        faulty(";", 1, 0);
        faulty(FIRST + ";", 1, FIRST.length());
        faulty(FIRST.replace(";", ""), 1, FIRST.length() - 1);
        faulty(FIRST + ONE.replace(";", ""), 1, FIRST.length() + ONE.length() - 1);
        faulty(FIRST.replace(";", " ") + ONE, 1, FIRST.length());
        Edges.term("parish is the first LINE and no other");
        faulty(ONE, 1, 0);
        faulty(FIRST + FIRST, 1, FIRST.length());
        faulty(FIRST + ONE + FIRST, 1, FIRST.length() + ONE.length());
        faulty(FIRST + ONE.repeat(8) + FIRST, 1, FIRST.length() + 8 * ONE.length());
    }

    private static void bounds() {
        Edges.term("nights 1 .. 12, room 1 .. 60, tooth 1 .. 40, teeth 1 .. 20, rule 0 .. 3, pays 0 .. 99, odds 0 .. 10");
        for (int field = 0; field < WORDS.length; field++) {
            String of = WORDS[field];
            due("least " + of, Edges.told(withNumber("" + LEAST[field], field)).count(field), LEAST[field]);
            due("most " + of, Edges.told(withNumber("" + MOST[field], field)).count(field), MOST[field]);
            due("most " + of, Edges.told(withNumber("000000000000000000" + MOST[field], field)).count(field), MOST[field]);
            int place = FIRST.indexOf(of) + of.length() + 1;
            for (String number : new String[] {"" + (MOST[field] + 1), "100", "999", "1000", "2147483648", "4294967297",
                "18446744073709551617", "00000000000000000000000000000000000000000100"}) {
                faulty(withNumber(number, field), 2, place);
            }
            faulty(withNumber("-1", field), 1, place);
            if (LEAST[field] > 0) {
                faulty(withNumber("0", field), 2, place);
                faulty(withNumber("00", field), 2, place);
            }
        }
        Edges.term("person: ache 1 .. 20, from 0 .. 11, dear 1 .. 9, bears 0 .. 20");
        for (int field = 0; field < WORDS_OF_ONE.length; field++) {
            String of = WORDS_OF_ONE[field];
            due("least " + of, Edges.told(FIRST + ofOne("" + LEAST_OF_ONE[field], field)).person(0, field),
                    LEAST_OF_ONE[field]);
            due("most " + of, Edges.told(FIRST + ofOne("" + MOST_OF_ONE[field], field)).person(0, field),
                    MOST_OF_ONE[field]);
            int place = FIRST.length() + ONE.indexOf(of) + of.length() + 1;
            for (String number : new String[] {"" + (MOST_OF_ONE[field] + 1), "4294967297", "18446744073709551617"}) {
                faulty(FIRST + ofOne(number, field), 2, place);
            }
            if (LEAST_OF_ONE[field] > 0) {
                faulty(FIRST + ofOne("0", field), 2, place);
            }
        }
    }

    private static String withNumber(String number, int field) {
        return FIRST.replaceAll(WORDS[field] + " \\d+", WORDS[field] + " " + number);
    }

    private static String ofOne(String number, int field) {
        return ONE.replaceAll(WORDS_OF_ONE[field] + " \\d+", WORDS_OF_ONE[field] + " " + number);
    }

    private static void persons() {
        Edges.term("PERSONS 0 .. 7 are numbered as they stand.");
        StringBuilder text = new StringBuilder(FIRST);
        for (int n = 0; n < 8; n++) {
            text.append(Edges.one(20 - n, n, 9 - n, n));
        }
        TeethingParish x = Edges.told(text.toString());
        for (int n = 0; n < 8; n++) {
            due("ache of " + n, x.person(n, 0), 20 - n);
            due("from of " + n, x.person(n, 1), n);
            due("dear of " + n, x.person(n, 2), 9 - n);
            due("bears of " + n, x.person(n, 3), n);
        }
        due("a 9th", x.person(8, 0), -2);
        Edges.term("NIGHTS 0 .. nights less 1.");
        due("the last NIGHT", x.left(4) >= 0 ? 1 : 0, 1);
        due("behind it", x.left(5), -2);
        due("the only one", Edges.told(Edges.head(1, 1, 1, 1, 0, 0, 0)).left(0), 1);
        due("behind it", Edges.told(Edges.head(1, 1, 1, 1, 0, 0, 0)).left(1), -2);
    }

    /** Each of the 256 bytes, between two words and behind a number. */
    private static void blanks() {
        Edges.term("blanks (32, 10) aside, the longest: words (a .. z), numbers (digits), the sign ; .");
        for (int sign = 0; sign < 256; sign++) {
            boolean letter = sign >= 97 && sign <= 122;
            boolean digit = sign >= 48 && sign <= 57;
            String between = "parish" + (char) sign + FIRST.substring(7);
            String behind = FIRST.replace("nights 5 ", "nights 1" + (char) sign);
            if (sign == 32 || sign == 10) {
                good(between, 1);
                good(behind, 1);
            } else if (letter) {
                faulty(between, 1, 0);
                faulty(behind, 1, 15);
            } else if (digit) {
                faulty(between, 1, 6);
                if (sign <= 50) {
                    good(behind, 1);
                } else {
                    faulty(behind, 2, 14);
                }
            } else {
                faulty(between, 1, 6);
                faulty(behind, 1, 15);
            }
        }
        good("\n \n" + FIRST.replace(" ", " \n\n ").replace(";", "\n;\n "), 1);
        for (int sign = 0; sign < 256; sign++) {
            String other = FIRST.replace(';', (char) sign);
            boolean digit = sign >= 48 && sign <= 57;
            if (sign == ';') {
                good(other, 1);
            } else if (digit) {
                faulty(other, 2, FIRST.length() - 2);
            } else {
                faulty(other, 1, FIRST.length() - (sign == 32 || sign == 10 ? 0 : 1));
            }
        }
    }

    private static void longestTokens() {
        Edges.term("the longest: words");
        faulty("parishnights 5", 1, 0);
        faulty("parish nightsroom 5", 1, 7);
        for (int at = 0; at < "parish nights".length(); at++) {
            char sign = FIRST.charAt(at);
            if (sign != ' ') {
                // Another letter, one letter less and one more.
                faulty(FIRST.substring(0, at) + (char) (sign + 1) + FIRST.substring(at + 1), 1, at < 6 ? 0 : 7);
                faulty(FIRST.substring(0, at) + FIRST.substring(at + 1), 1, at < 6 ? 0 : at < 7 ? 6 : 7);
                faulty(FIRST.substring(0, at) + sign + FIRST.substring(at), 1, at < 6 ? 0 : 7);
            }
        }
        faulty("par ish", 1, 0);
        good(FIRST.replace(" ", "").replace("parish", "parish "), 1);
        faulty(FIRST.replace(" 7 ", " 7 7 "), 1, FIRST.indexOf(" 7 ") + 3);
        faulty(FIRST.replace(" 10 ", " 1 0 "), 1, FIRST.indexOf(" 10 ") + 3);
        faulty("p".repeat(700), 1, 0);
        faulty("parish nights " + "9".repeat(686), 2, 14);
    }

    private static void faults() {
        int n = FIRST.length();
        int eight = n + 8 * ONE.length();
        Edges.term("FAULTS, the first by its place");
        faulty("parish nights 99 room 99 !", 2, 14);
        faulty("parish nights ! room 99", 1, 14);
        faulty(FIRST + ONE.repeat(8).replace("dear 1", "dear 0") + ONE, 2, n + ONE.indexOf("dear") + 5);
        Edges.term("(a TOKEN's first byte; the end's)");
        faulty("   room", 1, 3);
        faulty("parish nights 0000000000000", 2, 14);
        faulty("parish", 1, 6);
        faulty("parish \n ", 1, 9);
        faulty("parish nights 1", 1, 15);
        faulty("parish" + " ".repeat(694), 1, 700);
        faulty(FIRST + "person", 1, n + 6);
        Edges.term("of one place the least");
        faulty("parish 99", 1, 7);
        faulty("99", 1, 0);
        faulty(FIRST.replace(";", " 99 ;"), 1, n);
        faulty(FIRST + ONE.repeat(7) + ONE.replace(";", " ") + ONE, 1, eight);
        Edges.term("1 a TOKEN that is none, or can't stand there (parish behind the first LINE, another word ahead of"
                + " it).");
        faulty("!", 1, 0);
        faulty(FIRST + "!", 1, n);
        faulty(FIRST + "parish", 1, n);
        faulty(FIRST + ONE.repeat(8) + "parish", 1, eight);
        faulty("person", 1, 0);
        faulty("nights", 1, 0);
        faulty("parish parish", 1, 7);
        Edges.term("2 a number out of its bounds.");
        faulty("parish nights 0", 2, 14);
        faulty("parish nights 13", 2, 14);
        faulty("parish nights 13!", 2, 14);
        Edges.term("3 a 9th person, at his word.");
        faulty(FIRST + ONE.repeat(9), 3, eight);
        faulty(FIRST + ONE.repeat(8) + " \nperson", 3, eight + 2);
        faulty(FIRST + ONE.repeat(8) + "person!", 3, eight);
        faulty(FIRST + ONE.repeat(8) + "people", 1, eight);
        faulty(FIRST + ONE.repeat(8) + "persons", 1, eight);
        faulty(FIRST + ONE.repeat(8) + "9", 1, eight);
        good(FIRST + ONE.repeat(8), 9);
    }

    // Promises.

    private static void newObject() {
        Edges.promise(1, "No PARISH.");
        TeethingParish x = new TeethingParish();
        due("all()", x.all(), -2);
        for (int what = 0; what <= 11; what++) {
            due("count(" + what + ")", x.count(what), 0);
        }
    }

    private static void feed() {
        Edges.promise(2, "Twenty bytes come behind the TAPE, four of each number, the highest first: how many it has");
        for (int at = 0; at < 20; at++) {
            int[] four = {0x20202020, 0x20202020, 0x20202020, 0x20202020, 0x20202020};
            // A blank with its highest bit, and one more bit: neither is a blank any more.
            four[at / 4] ^= 0x80 << 24 - at % 4 * 8;
            TeethingParish x = new TeethingParish();
            due("feed", x.feed(four[0], four[1], four[2], four[3], four[4]), 20);
            x.parish();
            due("place of the byte " + at, x.fault(1), at);
        }
        TeethingParish x = new TeethingParish();
        due("feed of least numbers", x.feed(Edges.MIN, Edges.MIN, Edges.MIN, Edges.MIN, Edges.MIN), 20);
        due("feed of greatest numbers", x.feed(Edges.MAX, Edges.MAX, Edges.MAX, Edges.MAX, Edges.MAX), 40);
        x.end(3);
        due("feed behind three", x.feed(0, 0, 0, 0, 0), 23);
        Edges.promise(2, "NONE, and none come, if it would have more than 700.");
        TeethingParish y = new TeethingParish();
        append(y, FIRST + " ".repeat(680 - FIRST.length()));
        due("feed up to 700", y.feed(0x20202020, 0x20202020, 0x20202020, 0x20202020, 0x20202020), 700);
        due("feed of a full TAPE", y.feed(0, 0, 0, 0, 0), -1);
        due("bytes", y.count(10), 700);
        y.end(681);
        due("feed up to 701", y.feed(0, 0, 0, 0, 0), -1);
        due("bytes", y.count(10), 681);
        due("none came", y.parish(), 1);
    }

    private static void end() {
        TeethingParish x = new TeethingParish();
        Edges.promise(3, "The TAPE has its first n bytes alone: n");
        due("end(0) of nothing", x.end(0), 0);
        append(x, FIRST + "!");
        due("end of all", x.end(FIRST.length() + 1), FIRST.length() + 1);
        due("end of all but one", x.end(FIRST.length()), FIRST.length());
        due("bytes", x.count(10), FIRST.length());
        due("the rest is gone", x.parish(), 1);
        append(x, "parish nights 9");
        due("end(1)", x.end(1), 1);
        append(x, FIRST.substring(1));
        due("others come behind it", x.parish(), 1);
        append(x, FIRST);
        due("end(0)", x.end(0), 0);
        due("an empty TAPE", x.parish(), 0);
        Edges.promise(3, "NONE, and nothing happens, if it has not so many, or n is below 0.");
        due("end(1) of nothing", x.end(1), -1);
        due("end(-1) of nothing", x.end(-1), -1);
        append(x, FIRST);
        for (int n : new int[] {FIRST.length() + 1, 700, 701, Edges.MAX, -1, Edges.MIN}) {
            due("end(" + n + ")", x.end(n), -1);
            due("bytes", x.count(10), FIRST.length());
        }
        due("nothing happened", x.parish(), 1);
    }

    private static void parish() {
        Edges.promise(4, "The TAPE (empty then) is the PARISH (in place of another), nothing done: how many LINES");
        TeethingParish first = new TeethingParish();
        due("one LINE", Checks.tell(first, FIRST), 1);
        due("the TAPE", first.count(10), 0);
        due("nine LINES in place of one", Checks.tell(first, FIRST + ONE.repeat(8)), 9);
        due("PERSONS", first.count(7), 8);
        TeethingParish full = Edges.fullOfActs(Edges.A);
        due("one LINE in place of more", Checks.tell(full, Edges.NO_PERSON), 1);
        due("acts", full.count(8), 0);
        due("nothing done", full.undo(), -5);
        due("PERSONS", full.count(7), 0);
        due("nobody BEARS", full.all(), 0);
        due("a full TAPE", Checks.tell(full, FIRST + " ".repeat(700 - FIRST.length())), 1);
        TeethingParish x = new TeethingParish();
        for (String text : new String[] {Edges.MOST, Edges.A, Edges.NO_PERSON, Edges.MOST.replace("room 1 ", "room 50 "),
            Edges.A}) {
            Checks.tell(x, text);
            Answers.same("a PARISH in place of another", x, text);
        }
        Edges.promise(4, "(0: there is none then)");
        due("parish() of nothing", full.parish(), 0);
        due("there is none", full.all(), -2);
        due("there is none", full.count(0), 0);
        TeethingParish acting = Edges.fullOfActs(Edges.A.replace("rule 0", "rule 3"));
        due("parish() of blanks", Checks.tell(acting, "\n "), 0);
        due("no acts", acting.count(8), 0);
        due("no PERSONS", acting.person(0, 0), -2);
        for (int what = 0; what <= 10; what++) {
            due("count(" + what + ") of none", acting.count(what), 0);
        }
        Edges.promise(4, "-4: a FAULT (the TAPE is empty, all else stays).");
        TeethingParish y = Edges.fullOfActs(Edges.A);
        y.image(1);
        y.row(2, 1, 5);
        long all = y.all();
        for (String text : new String[] {"!", FIRST + "!", FIRST + ONE.repeat(9), FIRST + Edges.one(1, 12, 1, 0)}) {
            due("parish()", Checks.tell(y, text), -4);
            due("the TAPE", y.count(10), 0);
            due("LINES", y.count(9), 6);
            due("acts", y.count(8), 30);
            due("all", y.all(), all);
            due("the SLOT", y.fair(2), 0);
        }
        due("the IMAGE", y.back(1), 0);
        due("parish() without PARISH", Checks.tell(new TeethingParish(), FIRST + "!"), -4);
        TeethingParish none = new TeethingParish();
        Checks.tell(none, FIRST + "!");
        due("there is none as before", none.count(0), 0);
    }

    private static void fault() {
        TeethingParish x = new TeethingParish();
        Edges.promise(5, "NONE for another what, and ahead of any (what 1).");
        due("fault(0) ahead of any", x.fault(0), 0);
        due("fault(1) ahead of any", x.fault(1), -1);
        for (int what : new int[] {-1, 2, Edges.MIN, Edges.MAX}) {
            due("fault(" + what + ") ahead of any", x.fault(what), -1);
        }
        Checks.tell(x, " " + FIRST + "parish");
        for (int what : new int[] {-1, 2, Edges.MIN, Edges.MAX}) {
            due("fault(" + what + ")", x.fault(what), -1);
        }
        Edges.promise(5, "Of the latest parish()");
        due("fault(0)", x.fault(0), 1);
        due("fault(1)", x.fault(1), FIRST.length() + 1);
        append(x, "parish nights 0");
        due("fault(1) ahead of the next parish()", x.fault(1), FIRST.length() + 1);
        x.parish();
        due("fault(0) of the next", x.fault(0), 2);
        due("fault(1) of the next", x.fault(1), 14);
        Edges.promise(5, "what 0: its FAULT, 0 without, 1: its place (NONE without).");
        Checks.tell(x, FIRST);
        due("fault(0) of a good one", x.fault(0), 0);
        due("fault(1) of a good one", x.fault(1), -1);
        Checks.tell(x, "!");
        due("fault(1) of the first byte", x.fault(1), 0);
        x.parish();
        due("fault(0) of nothing", x.fault(0), 0);
        due("fault(1) of nothing", x.fault(1), -1);
    }

    private static void person() {
        Edges.promise(6, "-2: there are none such.");
        Edges.refusedWithoutPerson("person(.., 0)", (x, n) -> x.person(n, 0));
        Edges.refusedWithoutPerson("person(.., 3)", (x, n) -> x.person(n, 3));
        Edges.refusedOutside("person(4, ..)", Edges.told(Edges.A), (x, n) -> x.person(4, n), 0, 3);
    }
}
