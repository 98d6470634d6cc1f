import java.lang.reflect.Field;
import java.lang.reflect.Method;
import java.lang.reflect.Modifier;
import java.nio.file.Files;
import java.nio.file.Path;
import java.util.HashSet;
import java.util.List;
import java.util.Set;
import java.util.regex.Matcher;
import java.util.regex.Pattern;

/** What of LANGUAGE.md can be seen from outside or from the words of the file; its path is the argument. */
public final class LanguageTests {
    private static final Set<String> LIBRARY_CALLS = Set.of("Math.max", "Math.min", "Math.abs", "Integer.bitCount",
            "System.arraycopy", "Arrays.fill", "Arrays.copyOf", "Arrays.copyOfRange");
    private static final String NOT_IN_IT = "throw|try|catch|synchronized|assert|goto|double|float|protected|native"
            + "|volatile|transient|strictfp|Object|Thread|Random|Exact|hashCode|toString|->|::|@";

    private LanguageTests() {
    }

    public static void main(String[] args) throws Exception {
        String source = Files.readString(Path.of(args[0]));
        String code = source.replaceAll("(?s)/\\*.*?\\*/", "").replaceAll("//[^\n]*", "").replaceAll("\"[^\"]*\"", "\"\"");
        words(code);
        libraryCalls(code);
        methodLengths(code);
        face();
        Checks.holds("one import", code.split("\nimport |^import ").length == 2);
        Checks.holds("7-bit signs", source.chars().allMatch(c -> c < 127));
        Checks.close();
    }

    private static void words(String code) {
        Matcher found = Pattern.compile("\\b(" + NOT_IN_IT.replace("|->|::|@", "") + ")\\b|->|::|@").matcher(code);
        while (found.find()) {
            Checks.holds("no '" + found.group() + "' in the code", false);
        }
        Checks.holds("one text is not joined by +", !code.contains("\"\" +") && !code.contains("+ \"\""));
    }

    private static void libraryCalls(String code) {
        Matcher found = Pattern.compile("\\b(Math|Integer|Long|System|Arrays|String|Character)\\.\\w+").matcher(code);
        while (found.find()) {
            Checks.holds(found.group() + " is in the list", LIBRARY_CALLS.contains(found.group()));
        }
    }

    private static void methodLengths(String code) {
        List<String> lines = List.of(code.split("\n"));
        int start = -1;
        String indent = "";
        for (int n = 0; n < lines.size(); n++) {
            Matcher head = Pattern.compile("^( {4}| {8})(public|private)[^=;]*\\) \\{$").matcher(lines.get(n));
            if (head.find()) {
                start = n;
                indent = head.group(1);
            }
            if (start >= 0 && lines.get(n).equals(indent + "}")) {
                Checks.holds("the method of line " + (start + 1) + " is short", n - start <= 60);
                start = -1;
            }
        }
    }

    private static void face() {
        Set<String> names = new HashSet<>();
        for (Method method : TeethingParish.class.getDeclaredMethods()) {
            if (Modifier.isPublic(method.getModifiers())) {
                names.add(method.getName());
            } else {
                Checks.holds(method + " is private", Modifier.isPrivate(method.getModifiers()));
            }
        }
        privateNames(TeethingParish.class, names);
        fields(TeethingParish.class);
        Class<?>[] inside = TeethingParish.class.getDeclaredClasses();
        Checks.holds("some twelve classes", inside.length <= 11);
        for (Class<?> each : inside) {
            Checks.holds(each + " is static", Modifier.isStatic(each.getModifiers()));
            Checks.holds(each + " is not public", !Modifier.isPublic(each.getModifiers()));
            privateNames(each, names);
            fields(each);
        }
    }

    private static void privateNames(Class<?> of, Set<String> names) {
        for (Method method : of.getDeclaredMethods()) {
            boolean isPublic = Modifier.isPublic(method.getModifiers());
            Checks.holds(method + " has a name of its own", isPublic || !names.contains(method.getName()));
            Checks.holds(method + " takes at most seven", method.getParameterCount() <= 7);
        }
    }

    private static void fields(Class<?> of) {
        int own = 0;
        for (Field field : of.getDeclaredFields()) {
            boolean isStatic = Modifier.isStatic(field.getModifiers());
            own += isStatic ? 0 : 1;
            Checks.holds(field + " is final", !isStatic || Modifier.isFinal(field.getModifiers()));
            boolean open = field.getName().equals("NONE");
            Checks.holds(field + " is private", open || Modifier.isPrivate(field.getModifiers()));
        }
        Checks.holds(of + " has some twenty fields", own <= 20);
    }
}
