import java.lang.reflect.InvocationTargetException;
import java.lang.reflect.Method;
import java.lang.reflect.Modifier;
import java.nio.file.Files;
import java.nio.file.Path;
import java.util.Arrays;
import java.util.Set;
import java.util.TreeSet;
import java.util.regex.Matcher;
import java.util.regex.Pattern;
import java.util.stream.Collectors;
import java.util.stream.Stream;

/** README.md says what is so: its calls answer as it says, and it names every call and every test. */
public final class ReadmeTests {
    private static final Pattern BLOCK = Pattern.compile("(?s)```(java|text)\n(.*?)```");
    private static final Pattern CALL = Pattern.compile("x\\.(\\w+)\\(([^)]*)\\); *// *(?:(-?\\d+):.*|\".*\")");
    private static final Pattern NAME = Pattern.compile("`(\\w+)`");

    private ReadmeTests() {
    }

    public static void main(String[] args) throws Exception {
        String page = Files.readString(Path.of("README.md"));
        int answers = examples(page);
        Checks.holds("there are answers", answers > 0);
        Checks.due("calls", names(page, "about").equals(face()) ? 1 : 0, 1);
        Checks.due("tests", names(page, "test").equals(tests()) ? 1 : 0, 1);
        Checks.close();
    }

    /** Tells and calls what the blocks of the page tell and call, in their order: how many answers it says. */
    private static int examples(String page) throws Exception {
        TeethingParish x = null;
        int answers = 0;
        Matcher blocks = BLOCK.matcher(page);
        while (blocks.find()) {
            if (blocks.group(1).equals("text")) {
                x = Checks.told(blocks.group(2));
                continue;
            }
            for (String line : blocks.group(2).split("\n")) {
                if (line.equals("TeethingParish x = new TeethingParish();")) {
                    x = new TeethingParish();
                } else {
                    answers += example(x, line);
                }
            }
        }
        return answers;
    }

    private static int example(TeethingParish x, String line) throws Exception {
        Matcher call = CALL.matcher(line);
        if (!call.matches()) {
            Checks.holds("'" + line + "' is a call with its answer", false);
            return 0;
        }
        long got = answer(x, call.group(1), call.group(2).isEmpty() ? new String[0] : call.group(2).split(", "));
        if (call.group(3) == null) {
            return 0;
        }
        Checks.due(line, got, Long.parseLong(call.group(3)));
        return 1;
    }

    private static long answer(TeethingParish x, String name, String[] numbers)
            throws IllegalAccessException, InvocationTargetException {
        for (Method method : TeethingParish.class.getDeclaredMethods()) {
            if (method.getName().equals(name) && method.getParameterCount() == numbers.length) {
                Object[] arguments = new Object[numbers.length];
                for (int i = 0; i < numbers.length; i++) {
                    boolean isLong = method.getParameterTypes()[i] == long.class;
                    arguments[i] = isLong ? (Object) Long.decode(numbers[i]) : (Object) Integer.decode(numbers[i]);
                }
                return ((Number) method.invoke(x, arguments)).longValue();
            }
        }
        Checks.holds(name + " is a call", false);
        return 0;
    }

    /** The names in the table whose first column has that title. */
    private static Set<String> names(String page, String title) {
        Set<String> names = new TreeSet<>();
        boolean inTable = false;
        for (String line : page.split("\n")) {
            inTable = line.startsWith("| " + title + " |") || inTable && line.startsWith("|");
            Matcher name = NAME.matcher(inTable ? line : "");
            while (name.find()) {
                Checks.holds(name.group(1) + " is named once", names.add(name.group(1)));
            }
        }
        return names;
    }

    private static Set<String> face() {
        return Arrays.stream(TeethingParish.class.getDeclaredMethods())
                .filter(method -> Modifier.isPublic(method.getModifiers()))
                .map(Method::getName).collect(Collectors.toCollection(TreeSet::new));
    }

    private static Set<String> tests() throws Exception {
        try (Stream<Path> files = Files.list(Path.of("src/test/java"))) {
            return files.map(file -> file.getFileName().toString()).filter(name -> name.endsWith("Tests.java"))
                    .map(name -> name.substring(0, name.length() - ".java".length()))
                    .collect(Collectors.toCollection(TreeSet::new));
        }
    }
}
