import java.lang.reflect.Constructor;
import java.lang.reflect.InvocationTargetException;
import java.lang.reflect.Method;
import java.util.Arrays;
import java.util.Comparator;
import java.util.Random;

/** Calls by chance (from fixed seeds) with any arguments at all: none may throw, and asking may change nothing. */
public final class AnyCallTests {
    private static final int OBJECTS = 400;
    private static final int CALLS = 512;
    private static final int[] ODD_NUMBERS = {-1, 0, 1, 2, 3, 4, 7, 8, 11, 12, 20, 21, 29, 30, 31, 60, 61, 160, 161, 255,
        256, 700, 999, 1000, 20_000, 20_001, 2_000_000_000, 2_000_000_001, Integer.MAX_VALUE, Integer.MIN_VALUE,
        Integer.MIN_VALUE + 1, -2, -60};
    private static final String DOING = " feed end parish ache comes undo anew widen image back row write paste ";
    private static final String HEAD = "parish nights 7 room 12 tooth 9 teeth 3 rule 1 pays 4 odds 3;";
    private static final String PERSON = "person ache 5 from 1 dear 2 bears 6;";

    private AnyCallTests() {
    }

    public static void main(String[] args) throws Exception {
        Method[] methods = Arrays.stream(TeethingParish.class.getDeclaredMethods())
                .filter(method -> java.lang.reflect.Modifier.isPublic(method.getModifiers()))
                .sorted(Comparator.comparing(Method::getName)).toArray(Method[]::new);
        Checks.due("methods of the face", methods.length, 73);
        Constructor<?>[] constructors = TeethingParish.class.getConstructors();
        Checks.due("constructors of the face", constructors.length, 1);
        for (int seed = 0; seed < OBJECTS; seed++) {
            callAny(new Random(seed), methods);
        }
        Checks.close();
    }

    private static void callAny(Random random, Method[] methods) throws Exception {
        TeethingParish x = new TeethingParish();
        for (int n = 0; n < CALLS; n++) {
            if (n % 64 == 8) {
                Checks.tell(x, HEAD + PERSON.repeat(random.nextInt(10)) + (random.nextInt(4) == 0 ? "person" : ""));
            }
            if (n % 64 == 9) {
                fillRows(random, x);
            }
            Method method = methods[random.nextInt(methods.length)];
            Object[] arguments = argumentsFor(random, method);
            boolean asking = !DOING.contains(" " + method.getName() + " ");
            long before = asking ? digest(x) : 0;
            Object first = call(x, method, arguments);
            if (asking) {
                Checks.holds(method.getName() + " changes nothing", digest(x) == before);
                Checks.holds(method.getName() + " answers the same again", first.equals(call(x, method, arguments)));
            }
        }
    }

    private static Object call(TeethingParish x, Method method, Object[] arguments) throws IllegalAccessException {
        try {
            return method.invoke(x, arguments);
        } catch (InvocationTargetException thrown) {
            Checks.holds(method.getName() + Arrays.toString(arguments) + " threw " + thrown.getCause(), false);
            return "";
        }
    }

    private static void fillRows(Random random, TeethingParish x) {
        for (int slot = 0; slot < 4; slot++) {
            int persons = x.count(7);
            int length = random.nextInt(3) == 0 ? random.nextInt(61) : slot < 2 ? persons : 2 * random.nextInt(4);
            x.row(slot, random.nextInt(4), length);
            for (int i = 0; i < length; i++) {
                x.write(slot, i, random.nextInt(8) == 0 ? random.nextLong() : random.nextInt(4));
            }
        }
    }

    private static Object[] argumentsFor(Random random, Method method) {
        Object[] arguments = new Object[method.getParameterCount()];
        for (int i = 0; i < arguments.length; i++) {
            int kind = random.nextInt(8);
            int n = kind == 0 ? random.nextInt() : kind < 4 ? ODD_NUMBERS[random.nextInt(ODD_NUMBERS.length)]
                    : random.nextInt(9);
            boolean isLong = method.getParameterTypes()[i] == long.class;
            arguments[i] = isLong ? (Object) (random.nextBoolean() ? random.nextLong() : (long) n) : (Object) n;
        }
        return arguments;
    }

    /** What can be seen of all that is kept, as one number. */
    private static long digest(TeethingParish x) {
        long digest = 0;
        for (int what = 0; what < 12; what++) {
            digest = digest * 31 + x.count(what);
        }
        for (int person = 0; person < 8; person++) {
            for (int what = 0; what < 4; what++) {
                digest = digest * 31 + x.person(person, what);
            }
            digest = digest * 31 + x.gives(person);
            digest = digest * 31 + x.bears(person);
        }
        for (int night = 0; night < 12; night++) {
            digest = digest * 31 + x.holds(night) + 7L * x.cut(night);
        }
        for (int slot = 0; slot < 4; slot++) {
            digest = digest * 31 + x.leave(slot) + 7L * x.whose(slot);
        }
        digest = digest * 31 + x.least() + 7 * x.pairs();
        return digest * 31 + x.fault(0) + 7L * x.fault(1);
    }
}
