import java.io.IOException;
import java.io.UncheckedIOException;
import java.nio.file.Files;
import java.nio.file.Path;
import java.util.BitSet;
import java.util.Map;
import java.util.TreeMap;
import java.util.regex.Matcher;
import java.util.regex.Pattern;

/** What the tests of edges share: the sentence of the document that each answer is due by, and PARISHES to ask. */
final class Edges {
    static final int MIN = Integer.MIN_VALUE;
    static final int MAX = Integer.MAX_VALUE;

    /** Five PERSONS in five NIGHTS; FEAST in NIGHT 1; PERSON 3 never has his ache, PERSON 4 too late to GIVE it. */
    static final String A = head(5, 10, 7, 2, 0, 3, 5) + one(6, 0, 2, 5) + one(5, 0, 1, 6) + one(4, 1, 3, 0)
            + one(8, 9, 1, 20) + one(3, 3, 2, 4);
    static final String NO_PERSON = head(3, 1, 1, 1, 2, 99, 0);
    /** All that all can have, and none of it is ever given. */
    static final String MOST = head(12, 1, 40, 20, 0, 99, 10) + one(20, 0, 9, 20).repeat(8);

    private static final int PROMISES = 74;
    private static final String TERMS = "Terms";
    /** Words of a promise that tell an edge. */
    private static final Pattern EDGE = Pattern.compile("NONE|-\\d|\\d \\.\\. \\d|likewise|of several|free");
    /** Bounds are the edges that the Terms tell in numbers. */
    private static final Pattern BOUND = Pattern.compile("\\d \\.\\. \\d|at most|never|no more than|ahead of|longest");

    private static final Map<String, String> SECTIONS = new TreeMap<>();
    private static final Map<String, BitSet> SAID = new TreeMap<>();
    private static String sentence = "";

    /** A call without arguments, and one of one number. */
    interface Asked {
        long of(TeethingParish x);
    }

    interface AskedOfOne {
        long of(TeethingParish x, int n);
    }

    private Edges() {
    }

    // Sentences.

    static void readDocument() {
        try {
            String document = Files.readString(Path.of("../shared/DOC.md"));
            Matcher found = Pattern.compile("(?s)\n## ([^:\n]*)(.*?)(?=\n## |$)").matcher(document);
            while (found.find()) {
                SECTIONS.put(found.group(1), found.group(2));
                SAID.put(found.group(1), new BitSet());
            }
        } catch (IOException unread) {
            throw new UncheckedIOException(unread);
        }
    }

    /** The words of a promise by which the next answers are due; they must stand in the document. */
    static void promise(int number, String words) {
        says("Promise " + number, words);
    }

    static void term(String words) {
        says(TERMS, words);
    }

    private static void says(String section, String words) {
        sentence = section + " \"" + words + "\": ";
        String text = SECTIONS.getOrDefault(section, "");
        Checks.holds(sentence + "stands in the document", text.contains(words));
        for (int at = text.indexOf(words); at >= 0; at = text.indexOf(words, at + 1)) {
            SAID.get(section).set(at, at + words.length());
        }
    }

    /** Each promise has a test of its own, and so has each of its words that tells an edge. */
    static void everySentenceWasSaid() {
        for (int number = 1; number <= PROMISES; number++) {
            String section = "Promise " + number;
            Checks.holds(section + " has a test of its own", SAID.containsKey(section) && !SAID.get(section).isEmpty());
            wordsWereSaid(section, EDGE);
        }
        wordsWereSaid(TERMS, BOUND);
    }

    private static void wordsWereSaid(String section, Pattern words) {
        String text = SECTIONS.getOrDefault(section, "");
        Matcher found = words.matcher(text);
        while (found.find()) {
            String around = text.substring(Math.max(0, found.start() - 30), Math.min(text.length(), found.end() + 30));
            Checks.holds(section + ", a test of '" + around + "'", SAID.get(section).get(found.start()));
        }
    }

    static void due(String call, long got, long want) {
        Checks.due(sentence + call, got, want);
    }

    // Texts.

    static String head(int nights, int room, int tooth, int teeth, int rule, int pays, int odds) {
        return "parish nights " + nights + " room " + room + " tooth " + tooth + " teeth " + teeth + " rule " + rule
                + " pays " + pays + " odds " + odds + ";";
    }

    static String one(int ache, int from, int dear, int bears) {
        return "person ache " + ache + " from " + from + " dear " + dear + " bears " + bears + ";";
    }

    static TeethingParish told(String text) {
        TeethingParish x = new TeethingParish();
        Checks.due("parish of " + text, Checks.tell(x, text), text.chars().filter(sign -> sign == ';').count());
        return x;
    }

    /** The PARISH is there, and as many acts as can be. */
    static TeethingParish fullOfActs(String text) {
        TeethingParish x = told(text);
        for (int n = 0; n < 30; n++) {
            x.ache(0, 1 + n % 20);
        }
        Checks.due("acts", x.count(8), 30);
        return x;
    }

    // Refusals that many calls share.

    static void refusedWithoutParish(String call, Asked asked) {
        due(call + " of a new object", asked.of(new TeethingParish()), -2);
        TeethingParish x = told(A);
        x.parish();
        due(call + " when the PARISH is gone", asked.of(x), -2);
    }

    static void refusedWithoutPerson(String call, AskedOfOne asked) {
        refusedWithoutParish(call + " 0", x -> asked.of(x, 0));
        due(call + " 0 without PERSONS", asked.of(told(NO_PERSON), 0), -2);
        refusedOutside(call, told(A), asked, 0, 4);
        refusedOutside(call, told(MOST), asked, 0, 7);
    }

    static void refusedWithoutNight(String call, AskedOfOne asked) {
        refusedWithoutParish(call + " 0", x -> asked.of(x, 0));
        refusedOutside(call, told(A), asked, 0, 4);
        refusedOutside(call, told(MOST), asked, 0, 11);
        refusedOutside(call, told(head(1, 1, 1, 1, 0, 0, 0)), asked, 0, 0);
    }

    static void refusedWithoutSet(String call, AskedOfOne asked) {
        refusedWithoutParish(call + " 0", x -> asked.of(x, 0));
        refusedOutside(call, told(NO_PERSON), asked, 0, 0);
        refusedOutside(call, told(A), asked, 0, 31);
        refusedOutside(call, told(MOST), asked, 0, 255);
    }

    static void refusedWithoutSlot(String call, AskedOfOne asked) {
        TeethingParish x = told(A);
        for (int slot : new int[] {-1, 4, MIN, MAX}) {
            due(call + " " + slot, asked.of(x, slot), -2);
        }
        for (int slot = 0; slot < 4; slot++) {
            int each = slot;
            refusedWithoutParish(call + " " + slot, y -> asked.of(y, each));
        }
    }

    /** The call of a number below the least or above the most is refused; of these two it is not. */
    static void refusedOutside(String call, TeethingParish x, AskedOfOne asked, int least, int most) {
        for (int n : new int[] {least - 1, most + 1, MIN, MAX}) {
            due(call + " " + n, asked.of(x, n), -2);
        }
        for (int n : new int[] {least, most}) {
            due(call + " " + n + " is asked for", asked.of(x, n) == -2 ? 1 : 0, 0);
        }
    }
}
