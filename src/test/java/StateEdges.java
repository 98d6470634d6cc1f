import java.util.Arrays;

/** Edges of acts, room, IMAGES and SLOTS: promises 62 to 65, 68 to 74, and how long an object is used. */
final class StateEdges {
    /** Who pays anything leaves, so that leave() shows the first number of a row of eight that is above 0. */
    private static final String ALL_LEAVE = Edges.head(1, 20, 1, 1, 0, 0, 0) + Edges.one(1, 0, 1, 0).repeat(8);

    private StateEdges() {
    }

    static void all() {
        fiveHundredAndTwelveCalls();
        askedAhead();
        ache();
        comes();
        undo();
        anew();
        widen();
        count();
        image();
        back();
        row();
        rowRefused();
        write();
        writeRefused();
        paste();
        pasteRefused();
    }

    private static void due(String call, long got, long want) {
        Edges.due(call, got, want);
    }

    private static void fiveHundredAndTwelveCalls() {
        Edges.term("SLOTS 0 .. 3 have rows of numbers of 1, 2, 4 or 8 bytes (WIDTH 0 .. 3), at most 60, or nothing.");
        TeethingParish x = new TeethingParish();
        int calls = 0;
        for (int slot = 0; slot < 4; slot++) {
            due("row", x.row(slot, slot, 60), 0);
            for (int i = 0; i < 60; i++) {
                due("write", x.write(slot, i, i), 0);
            }
            calls += 61;
        }
        due("TAPE of 300", Checks.feed(x, Edges.A), Edges.A.length());
        due("LINES", x.parish(), 6);
        calls += 2 + (Edges.A.length() + 19) / 20;
        for (; calls < 511; calls++) {
            due("all()", x.all(), 17);
        }
        due("the 512th call", x.proof(), 13);
    }

    private static void askedAhead() {
        Edges.term("-2 is asked ahead of -5, -6.");
        TeethingParish x = Edges.fullOfActs(Edges.A);
        due("ache of 0 with 30 acts", x.ache(0, 0), -2);
        due("ache of 21 with 30 acts", x.ache(0, 21), -2);
        due("ache of no PERSON with 30 acts", x.ache(5, 1), -2);
        due("comes of -1 with 30 acts", x.comes(0, -1), -2);
        due("comes of 12 with 30 acts", x.comes(0, 12), -2);
        due("comes of no PERSON with 30 acts", x.comes(-1, 0), -2);
        due("widen(0) with acts", x.widen(0), -2);
        due("widen(61) with acts", x.widen(61), -2);
        TeethingParish none = new TeethingParish();
        due("undo() without PARISH and acts", none.undo(), -2);
        due("whose(0) without PARISH and row", none.whose(0), -2);
        due("fits(0) without PARISH and row", none.fits(0), -2);
        due("ask(0) without PARISH and row", none.ask(0), -2);
        due("leaves(0) without PARISH and row", none.leaves(0), -2);
        due("fair(0) without PARISH and row", none.fair(0), -2);
        due("leave(0) without PARISH and row", none.leave(0), -2);
        due("paste of no SLOT from one that has nothing", none.paste(0, 0, 4, 0, 0), -2);
        due("paste of no SLOT to one that has nothing", none.paste(-1, 0, 0, 0, 0), -2);
    }

    // Acts.

    private static void ache() {
        Edges.promise(62, "The ache of a PERSON is n (1 .. 20) from now on: what it was.");
        TeethingParish x = Edges.told(Edges.A);
        due("to the most", x.ache(4, 20), 3);
        due("to the least", x.ache(4, 1), 20);
        due("to what it is", x.ache(4, 1), 1);
        due("acts", x.count(8), 3);
        x.anew();
        Answers.of(x);
        x.ache(2, 9);
        Answers.same("from now on", x, Edges.A.replace("ache 4 from 1 ", "ache 9 from 1 "));
        Edges.promise(62, "-2: there are none such; -5: there are 30 acts (not taken back).");
        Edges.refusedOutside("ache(0, ..)", x, (y, n) -> y.ache(0, n), 1, 20);
        Edges.refusedWithoutPerson("ache(.., 1)", (y, n) -> y.ache(n, 1));
        TeethingParish full = Edges.told(Edges.A);
        for (int n = 0; n < 29; n++) {
            full.comes(3, n % 12);
        }
        due("the 30th act", full.ache(0, 7), 6);
        due("the 31st", full.ache(0, 8), -5);
        due("the 31st of another", full.ache(4, 3), -5);
        due("the ache stays", full.person(0, 0), 7);
        due("acts", full.count(8), 30);
        full.undo();
        due("the 30th once more", full.ache(0, 9), 6);
        full.anew();
        due("the first once more", full.ache(0, 9), 6);
    }

    private static void comes() {
        Edges.promise(63, "His from is n (0 .. 11) from now on: what it was.");
        TeethingParish x = Edges.told(Edges.A);
        due("to the most", x.comes(4, 11), 3);
        due("never", x.bears(4), 0);
        due("to the least", x.comes(4, 0), 11);
        due("at once", x.waits(0), 2);
        due("to what it is", x.comes(4, 0), 0);
        due("acts", x.count(8), 3);
        x.anew();
        Answers.of(x);
        x.comes(1, 3);
        Answers.same("from now on", x, Edges.A.replace("ache 5 from 0 ", "ache 5 from 3 "));
        Edges.promise(63, "-2, -5 likewise.");
        Edges.refusedOutside("comes(0, ..)", x, (y, n) -> y.comes(0, n), 0, 11);
        Edges.refusedWithoutPerson("comes(.., 0)", (y, n) -> y.comes(n, 0));
        TeethingParish full = Edges.told(Edges.A);
        for (int n = 0; n < 29; n++) {
            full.ache(3, 1 + n % 20);
        }
        due("the 30th act", full.comes(0, 7), 0);
        due("the 31st", full.comes(0, 8), -5);
        due("the from stays", full.person(0, 1), 7);
        due("acts", full.count(8), 30);
        full.undo();
        due("the 30th once more", full.comes(0, 9), 0);
    }

    private static void undo() {
        Edges.promise(64, "The latest act is taken back: how many there are.");
        TeethingParish x = Edges.told(Edges.A);
        for (int n = 0; n < 15; n++) {
            x.ache(n % 5, 1 + n);
            x.comes(n % 5, n % 12);
        }
        for (int n = 14; n >= 0; n--) {
            due("from of the latest", x.person(n % 5, 1), n % 12);
            due("undo()", x.undo(), 2 * n + 1);
            due("ache of the latest", x.person(n % 5, 0), 1 + n);
            due("undo()", x.undo(), 2 * n);
        }
        due("as told", x.all(), 17);
        x.ache(0, 6);
        due("an act by which nothing was another", x.undo(), 0);
        x.ache(2, 9);
        x.comes(1, 3);
        Answers.of(x);
        x.undo();
        Answers.same("the latest is taken back", x, Edges.A.replace("ache 4 from 1 ", "ache 9 from 1 "));
        x.undo();
        Answers.same("both are taken back", x, Edges.A);
        Edges.promise(64, "-2: there is no PARISH; -5: there is none.");
        due("undo() of none", x.undo(), -5);
        due("undo() of none, ever", Edges.told(Edges.NO_PERSON).undo(), -5);
        due("all stays", x.all(), 17);
        Edges.refusedWithoutParish("undo()", TeethingParish::undo);
    }

    private static void anew() {
        Edges.promise(65, "All are: how many there were. -2 likewise.");
        TeethingParish x = Edges.fullOfActs(Edges.A);
        due("anew() of 30", x.anew(), 30);
        due("as told", x.all(), 17);
        due("the first ache", x.person(0, 0), 6);
        due("anew() of none", x.anew(), 0);
        x.comes(2, 4);
        due("anew() of one", x.anew(), 1);
        due("the from", x.person(2, 1), 1);
        due("undo() behind it", x.undo(), -5);
        x.ache(2, 9);
        x.comes(1, 3);
        Answers.of(x);
        x.anew();
        Answers.same("all are taken back", x, Edges.A);
        Edges.refusedWithoutParish("anew()", TeethingParish::anew);
    }

    private static void widen() {
        Edges.promise(68, "room of all NIGHTS is n (1 .. 60) from now on: what it was.");
        TeethingParish x = Edges.told(Edges.A);
        due("to the most", x.widen(60), 10);
        due("left(4)", x.left(4), 60);
        due("to the least", x.widen(1), 60);
        due("left(0)", x.left(0), 1);
        due("to what it is", x.widen(1), 1);
        due("no acts", x.count(8), 0);
        due("no acts", x.anew(), 0);
        due("room stays", x.count(1), 1);
        Answers.of(x);
        x.widen(9);
        Answers.same("from now on", x, Edges.A.replace("room 10 ", "room 9 "));
        Edges.promise(68, "-2: there is none such, no PARISH; -5: there are acts that are not taken back.");
        Edges.refusedOutside("widen", x, TeethingParish::widen, 1, 60);
        Edges.refusedWithoutParish("widen(1)", y -> y.widen(1));
        TeethingParish acting = Edges.fullOfActs(Edges.A);
        for (int n = 30; n > 0; n--) {
            due("widen with " + n + " acts", acting.widen(5), -5);
            acting.undo();
        }
        due("the room had stayed", acting.widen(5), 10);
        acting.ache(0, 6);
        due("an act by which nothing was another", acting.widen(6), -5);
        acting.anew();
        due("all are taken back", acting.widen(6), 5);
    }

    private static void count() {
        Edges.promise(69, "NONE for others.");
        TeethingParish none = new TeethingParish();
        TeethingParish full = Edges.fullOfActs(Edges.MOST);
        for (int slot = 0; slot < 4; slot++) {
            full.row(slot, slot, 15 * slot);
        }
        Checks.feed(full, " ".repeat(700));
        int[] due = {12, 1, 40, 20, 0, 99, 10, 8, 30, 9, 700, 4};
        for (int what = 0; what < due.length; what++) {
            due("count(" + what + ") of nothing", none.count(what), 0);
            due("count(" + what + ") of the most", full.count(what), due[what]);
        }
        for (int what : new int[] {-1, 12, Edges.MIN, Edges.MAX}) {
            due("count(" + what + ") of nothing", none.count(what), -1);
            due("count(" + what + ") of the most", full.count(what), -1);
        }
        full.row(0, 0, -1);
        none.row(0, 0, 61);
        due("SLOTS that have a row", full.count(11), 4);
        due("SLOTS that have none", none.count(11), 0);
    }

    // IMAGES.

    private static void image() {
        Edges.promise(70, "IMAGE k (0 .. 2) keeps the PARISH, and acts: 0. -2: no such k.");
        Edges.refusedOutside("image", Edges.told(Edges.A), TeethingParish::image, 0, 2);
        Edges.refusedOutside("image without PARISH", new TeethingParish(), TeethingParish::image, 0, 2);
        TeethingParish x = Edges.fullOfActs(Edges.A);
        for (int k = 0; k < 3; k++) {
            due("image(" + k + ")", x.image(k), 0);
            x.undo();
        }
        for (int k = 2; k >= 0; k--) {
            x.back(k);
            due("acts of IMAGE " + k, x.count(8), 30 - k);
        }
        x.anew();
        due("image(0) in place of another one", x.image(0), 0);
        x.back(1);
        x.back(0);
        due("acts of IMAGE 0", x.count(8), 0);
        imageKeepsActs();
    }

    private static void imageKeepsActs() {
        TeethingParish x = Edges.told(Edges.A);
        x.ache(4, 9);
        x.comes(0, 2);
        x.image(2);
        x.anew();
        // Others in their place: of other PERSONS, of ache where there was from, from other numbers.
        x.comes(1, 8);
        x.ache(1, 2);
        x.back(2);
        due("undo() of an IMAGE's act", x.undo(), 1);
        Answers.same("the latest of the IMAGE's is taken back", x, Edges.A.replace("ache 3 from 3 ", "ache 9 from 3 "));
        due("undo() of an IMAGE's act", x.undo(), 0);
        Answers.same("all of the IMAGE's are taken back", x, Edges.A);
        x.back(2);
        due("anew() of an IMAGE's acts", x.anew(), 2);
        Answers.same("all of the IMAGE's are taken back at once", x, Edges.A);
    }

    private static void back() {
        Edges.promise(71, "It is as IMAGE k has it: 0. -2: no such k; -6: it has nothing.");
        TeethingParish x = Edges.told(Edges.A);
        for (int k = 0; k < 3; k++) {
            due("back(" + k + ") to nothing", x.back(k), -6);
            due("nothing happens", x.all(), 17);
        }
        for (int k : new int[] {-1, 3, Edges.MIN, Edges.MAX}) {
            due("back(" + k + ")", x.back(k), -2);
        }
        x.image(1);
        due("back(0) to nothing", x.back(0), -6);
        due("back(2) to nothing", x.back(2), -6);
        Checks.tell(x, Edges.MOST);
        Answers.of(x);
        due("back(1)", x.back(1), 0);
        Answers.same("as the IMAGE has it", x, Edges.A);
        for (int n = 0; n < 30; n++) {
            x.ache(0, 1 + n % 20);
        }
        x.image(2);
        x.anew();
        x.widen(60);
        due("back(2) to 30 acts", x.back(2), 0);
        due("the 31st act", x.comes(0, 3), -5);
        due("room", x.count(1), 10);
        due("all are taken back", x.anew(), 30);
        due("as told", x.person(0, 0), 6);
        due("as told", x.all(), 17);
        TeethingParish none = new TeethingParish();
        none.image(0);
        Checks.tell(none, Edges.A);
        none.image(2);
        due("back(0) to no PARISH", none.back(0), 0);
        due("there is none", none.all(), -2);
        due("there is none", none.count(9), 0);
        due("back(2) to one", none.back(2), 0);
        due("there is one", none.count(9), 6);
    }

    // SLOTS.

    private static void row() {
        Edges.promise(72, "A SLOT (0 .. 3) has a row of n numbers of a WIDTH, all 0 (in place of another one): 0.");
        TeethingParish x = Edges.told(ALL_LEAVE);
        for (int slot = 0; slot < 4; slot++) {
            for (int width = 0; width < 4; width++) {
                Checks.fill(x, slot, width, 1, 1, 1, 1, 1, 1, 1, 1);
                due("a row of others", x.leave(slot), 1);
                due("row of eight", x.row(slot, width, 8), 0);
                due("all 0", x.leave(slot), -1);
            }
            due("row of none", x.row(slot, 0, 0), 0);
            due("it has no number", x.write(slot, 0, 1), -7);
            due("row of 60", x.row(slot, 3, 60), 0);
            due("its last number", x.write(slot, 59, 1), 0);
            due("behind it", x.write(slot, 60, 1), -7);
        }
        // 60 of another row, all 1, are gone when a shorter one has come between.
        TeethingParish y = Edges.told(ALL_LEAVE);
        long[] ones = new long[60];
        Arrays.fill(ones, 1);
        Checks.fill(y, 0, 2, ones);
        y.row(0, 2, 3);
        due("row of 60 in place of a shorter one", y.row(0, 2, 60), 0);
        y.row(1, 2, 8);
        for (int i = 0; i + 8 <= 60; i += 4) {
            due("eight from " + i, y.paste(0, i, 1, 0, 8), 0);
            due("all 0", y.leave(1), -1);
        }
        due("WIDTH in place of another one", y.row(0, 0, 8), 0);
        y.write(0, 0, 256);
        due("WIDTH 0 by now", y.leave(0), -1);
    }

    private static void rowRefused() {
        Edges.promise(72, "-2: there is no such SLOT or WIDTH (0 .. 3), or n is above 60; -3, and the SLOT stays: n is"
                + " below 0.");
        TeethingParish x = Edges.told(ALL_LEAVE);
        Edges.refusedOutside("row(.., 0, 1)", x, (y, n) -> y.row(n, 0, 1), 0, 3);
        Edges.refusedOutside("row(0, .., 1)", x, (y, n) -> y.row(0, n, 1), 0, 3);
        Checks.fill(x, 0, 1, 0, 0, 0, 0, 0, 0, 0, 1);
        int[][] refused = {{0, 0, -1, -3}, {0, 3, Edges.MIN, -3}, {0, 0, 61, -2}, {0, 1, Edges.MAX, -2}, {0, 4, 8, -2},
            {0, -1, 8, -2}, {0, 4, -1, -2}, {4, 0, -1, -2}, {-1, 0, 8, -2}};
        for (int[] each : refused) {
            due("row(" + each[0] + ", " + each[1] + ", " + each[2] + ")", x.row(each[0], each[1], each[2]), each[3]);
            due("the SLOT stays", x.leave(0), 128);
            due("its WIDTH stays", x.write(0, 0, 65_536), 0);
            due("its length stays", x.write(0, 8, 1), -7);
        }
        TeethingParish none = new TeethingParish();
        due("row(0, 0, -1) of nothing", none.row(0, 0, -1), -3);
        due("it stays nothing", none.write(0, 0, 1), -6);
        due("row(0, 0, 61) of nothing", none.row(0, 0, 61), -2);
        due("it stays nothing", none.count(11), 0);
    }

    private static void write() {
        Edges.promise(73, "Number i of the SLOT's row is v, cut to its WIDTH: 0.");
        TeethingParish x = Edges.told(ALL_LEAVE);
        int[] bits = {8, 16, 32};
        for (int width = 0; width < 3; width++) {
            long round = 1L << bits[width];
            // 1 pays too much, 0 does not; what is below 0 is none such.
            long[][] cut = {{0, -1}, {1, 1}, {round, -1}, {round + 1, 1}, {1 - round, 1}, {-round, -1}, {7 * round + 1, 1},
                {-1, -2}, {round - 1, -2}, {round / 2, -2}, {-round / 2, -2}, {Long.MIN_VALUE, -1}, {Long.MIN_VALUE + 1, 1},
                {Long.MAX_VALUE, -2}};
            for (long[] each : cut) {
                Checks.fill(x, 0, width, new long[8]);
                due("write of " + each[0], x.write(0, 0, each[0]), 0);
                due(each[0] + " cut to WIDTH " + width, x.leave(0), each[1]);
            }
            Checks.fill(x, 0, width, new long[8]);
            x.write(0, 0, round / 2 - 1);
            due("the greatest of WIDTH " + width, x.leave(0), width == 0 ? 1 : -2);
        }
        long[][] whole = {{0, -1}, {1, 1}, {999, 1}, {1000, -2}, {1L << 32, -2}, {(1L << 32) + 1, -2}, {-1, -2},
            {Long.MIN_VALUE, -2}, {Long.MAX_VALUE, -2}};
        for (long[] each : whole) {
            Checks.fill(x, 0, 3, new long[8]);
            x.write(0, 0, each[0]);
            due(each[0] + " of WIDTH 3", x.leave(0), each[1]);
        }
        Checks.fill(x, 0, 3, new long[8]);
        due("the last number", x.write(0, 7, 5), 0);
        due("the last number pays", x.leave(0), 128);
    }

    private static void writeRefused() {
        Edges.promise(73, "-2: there is no such SLOT; -6: it has nothing; -7: there is no such number.");
        TeethingParish x = Edges.told(ALL_LEAVE);
        for (int slot : new int[] {-1, 4, Edges.MIN, Edges.MAX}) {
            due("write of SLOT " + slot, x.write(slot, -1, 1), -2);
        }
        for (int slot = 0; slot < 4; slot++) {
            due("write of nothing", x.write(slot, 0, 1), -6);
            due("write of nothing beyond", x.write(slot, -1, 1), -6);
            x.row(slot, 0, 8);
            for (int i : new int[] {-1, 8, 60, Edges.MIN, Edges.MAX}) {
                due("write of number " + i, x.write(slot, i, 1), -7);
            }
            due("nothing was written", x.leave(slot), -1);
            due("write of the first", x.write(slot, 0, 1), 0);
            due("write of the last", x.write(slot, 7, 1), 0);
        }
        x.row(0, 0, 0);
        due("write of the first of none", x.write(0, 0, 1), -7);
    }

    private static void paste() {
        Edges.promise(74, "So many numbers of a SLOT's row, from one on, are put to another one's (or its own), from"
                + " one on, as they were: 0.");
        TeethingParish x = Edges.told(ALL_LEAVE);
        Checks.fill(x, 0, 3, 0, 1, 0, 0, 0, 0, 0, 0);
        due("to the right, over its own", x.paste(0, 0, 0, 1, 7), 0);
        due("as they were", x.leave(0), 4);
        due("the last of them is no copy of the first", x.write(0, 2, 0), 0);
        due("all others are 0", x.leave(0), -1);
        Checks.fill(x, 0, 3, 0, 0, 0, 0, 0, 0, 1, 0);
        due("to the left, over its own", x.paste(0, 1, 0, 0, 7), 0);
        due("as they were", x.leave(0), 32);
        due("write", x.write(0, 5, 0), 0);
        due("all others are 0", x.leave(0), -1);
        Checks.fill(x, 0, 3, 0, 0, 0, 0, 0, 0, 1, 0);
        due("where they are", x.paste(0, 0, 0, 0, 8), 0);
        due("as they were", x.leave(0), 64);
        due("none of them", x.paste(0, 6, 0, 0, 0), 0);
        due("as they were", x.leave(0), 64);
        long[] sixty = new long[60];
        sixty[59] = 1;
        for (int width = 0; width < 4; width++) {
            Checks.fill(x, 1, width, sixty);
            x.row(3, width, 60);
            due("all sixty", x.paste(1, 0, 3, 0, 60), 0);
            x.row(2, width, 8);
            due("the last of sixty", x.paste(3, 59, 2, 7, 1), 0);
            due("it is there", x.leave(2), 128);
        }
    }

    private static void pasteRefused() {
        Edges.promise(74, "-2: there is no such SLOT; -6: one has nothing; -8: they are not of one WIDTH; -7, and"
                + " nothing happens: some are beyond their rows (also where n is 0: a place above how many it has),"
                + " or a place or n is below 0.");
        TeethingParish x = Edges.told(ALL_LEAVE);
        for (int slot : new int[] {-1, 4, Edges.MIN, Edges.MAX}) {
            due("paste from SLOT " + slot, x.paste(slot, 0, 0, 0, 0), -2);
            due("paste to SLOT " + slot, x.paste(0, 0, slot, 0, 0), -2);
        }
        due("paste of nothing to nothing", x.paste(0, 0, 1, 0, 0), -6);
        Checks.fill(x, 0, 1, 1, 1, 1, 1, 1, 1, 1, 1);
        due("paste to nothing", x.paste(0, 0, 1, 0, 0), -6);
        due("paste of nothing", x.paste(1, 0, 0, 0, 0), -6);
        for (int width = 0; width < 4; width++) {
            x.row(1, width, 8);
            due("paste to WIDTH " + width, x.paste(0, 0, 1, 0, 0), width == 1 ? 0 : -8);
            due("paste from WIDTH " + width, x.paste(1, 0, 0, 0, 0), width == 1 ? 0 : -8);
            due("paste beyond WIDTH " + width, x.paste(0, 9, 1, 0, 0), width == 1 ? -7 : -8);
        }
        x.row(1, 1, 5);
        // From 0 .. 8 of the eight to 0 .. 5 of the five.
        int[][] beyond = {{0, 0, 6}, {4, 0, 5}, {0, 1, 5}, {8, 0, 1}, {0, 5, 1}, {9, 0, 0}, {0, 6, 0}, {-1, 0, 0}, {0, -1, 0},
            {0, 0, -1}, {-1, 0, 1}, {0, -1, 1}, {1, 1, -1}, {Edges.MAX, 0, 1}, {0, Edges.MAX, 1}, {0, 0, Edges.MAX},
            {1, 1, Edges.MAX}, {Edges.MAX, Edges.MAX, Edges.MAX}, {Edges.MIN, 0, 0}, {0, Edges.MIN, 0}, {0, 0, Edges.MIN},
            {Edges.MIN, Edges.MIN, Edges.MIN}, {Edges.MAX, 0, Edges.MIN}, {60, 0, 0}, {9, 0, 1}};
        for (int[] each : beyond) {
            String call = "paste(0, " + each[0] + ", 1, " + each[1] + ", " + each[2] + ")";
            due(call, x.paste(0, each[0], 1, each[1], each[2]), -7);
        }
        for (int[] each : new int[][] {{8, 5, 0}, {0, 0, 0}, {8, 0, 0}, {0, 5, 0}}) {
            due("none from " + each[0] + " to " + each[1], x.paste(0, each[0], 1, each[1], each[2]), 0);
        }
        x.row(2, 1, 8);
        due("paste", x.paste(1, 0, 2, 0, 5), 0);
        due("nothing happened", x.leave(2), -1);
        due("the last of eight to the last of five", x.paste(0, 7, 1, 4, 1), 0);
        due("from 3 on to the end", x.paste(0, 3, 1, 0, 5), 0);
    }
}
