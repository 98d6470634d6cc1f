import java.nio.charset.StandardCharsets;

/** What the tests share: counting answers, and telling a text to a TeethingParish. */
final class Checks {
    private static final int SHOWN = 40;

    private static int passed = 0;
    private static int failed = 0;

    private Checks() {
    }

    static void due(String call, long got, long want) {
        if (got == want) {
            passed++;
            return;
        }
        failed++;
        if (failed <= SHOWN) {
            System.out.println(call + " answered " + got + ", due is " + want);
        }
    }

    static void holds(String what, boolean so) {
        due(what, so ? 1 : 0, 1);
    }

    /** Prints the closing line and ends the program. */
    static void close() {
        System.out.println(passed + " passed, " + failed + " failed");
        System.exit(failed == 0 ? 0 : 1);
    }

    /** Puts the text's bytes on the TAPE, which must be empty: its length. */
    static int feed(TeethingParish x, String text) {
        byte[] bytes = text.getBytes(StandardCharsets.ISO_8859_1);
        for (int i = 0; i < bytes.length; i += 20) {
            x.feed(four(bytes, i), four(bytes, i + 4), four(bytes, i + 8), four(bytes, i + 12), four(bytes, i + 16));
        }
        return x.end(bytes.length);
    }

    static int tell(TeethingParish x, String text) {
        feed(x, text);
        return x.parish();
    }

    static TeethingParish told(String text) {
        TeethingParish x = new TeethingParish();
        tell(x, text);
        return x;
    }

    static void fill(TeethingParish x, int slot, int width, long... numbers) {
        x.row(slot, width, numbers.length);
        for (int i = 0; i < numbers.length; i++) {
            x.write(slot, i, numbers[i]);
        }
    }

    private static int four(byte[] bytes, int at) {
        int four = 0;
        for (int i = at; i < at + 4; i++) {
            four = four << 8 | (i < bytes.length ? bytes[i] & 255 : 0);
        }
        return four;
    }
}
