import java.lang.reflect.Method;
import java.util.ArrayList;
import java.util.Arrays;
import java.util.Comparator;
import java.util.List;
import java.util.Random;

/** Whatever was asked ahead, an answer is the one of another object that was told and done the same but asked nothing. */
public final class OrderTests {
    private static final int OBJECTS = 60;
    private static final int CALLS = 400;
    private static final String DOING = " feed end parish ache comes undo anew widen image back row write paste ";

    private final Random random;
    private final TeethingParish x = new TeethingParish();
    /** What x was told and done to, to be told and done to another one. */
    private final List<Deed> deeds = new ArrayList<>();

    private interface Deed {
        void doneTo(TeethingParish one);
    }

    private OrderTests(int seed) {
        random = new Random(seed);
    }

    public static void main(String[] args) throws Exception {
        Method[] asking = Arrays.stream(TeethingParish.class.getDeclaredMethods())
                .filter(method -> java.lang.reflect.Modifier.isPublic(method.getModifiers()))
                .filter(method -> !DOING.contains(" " + method.getName() + " "))
                .sorted(Comparator.comparing(Method::getName)).toArray(Method[]::new);
        for (int seed = 0; seed < OBJECTS; seed++) {
            new OrderTests(seed).run(asking);
        }
        Checks.close();
    }

    private void run(Method[] asking) throws Exception {
        for (int n = 0; n < CALLS; n++) {
            if (n % 80 == 0) {
                tellAnother();
            } else if (n % 5 == 0) {
                doSomething();
            }
            Method method = asking[random.nextInt(asking.length)];
            Object[] arguments = new Object[method.getParameterCount()];
            for (int i = 0; i < arguments.length; i++) {
                boolean two = i == 1 && "rests rest holding".contains(method.getName());
                arguments[i] = two ? 1 - Math.min(1, (Integer) arguments[0]) : random.nextInt(i == 0 ? 5 : 2);
            }
            TeethingParish unasked = new TeethingParish();
            for (Deed deed : deeds) {
                deed.doneTo(unasked);
            }
            String call = method.getName() + Arrays.toString(arguments);
            Checks.due(call, ((Number) method.invoke(x, arguments)).longValue(),
                    ((Number) method.invoke(unasked, arguments)).longValue());
        }
    }

    private void tellAnother() {
        Model model = new Model();
        do {
            model.invent(random);
        } while (model.persons.size() < 2);
        String text = model.text();
        int nights = model.nights;
        int[] cut = model.year().cut;
        // Ahead of these nothing counts any more: another PARISH is told, and each SLOT gets another row.
        deeds.clear();
        perform(one -> Checks.tell(one, text));
        perform(one -> Checks.fill(one, 0, 0));
        perform(one -> Checks.fill(one, 1, 3, nights - 1, cut[nights - 1]));
        perform(one -> Checks.fill(one, 2, 1, new long[one.count(7)]));
        perform(one -> Checks.fill(one, 3, 2, unlike(one.count(7))));
    }

    private static long[] unlike(int length) {
        long[] row = new long[length];
        for (int i = 0; i < length; i++) {
            row[i] = 7 * i % 5 * 10;
        }
        return row;
    }

    private void doSomething() {
        int person = random.nextInt(Math.max(1, x.count(7)));
        int n = 1 + random.nextInt(8);
        switch (random.nextInt(4)) {
            case 0 -> perform(one -> one.ache(person, n));
            case 1 -> perform(one -> one.comes(person, n - 1));
            case 2 -> perform(TeethingParish::undo);
            default -> perform(one -> {
                one.anew();
                one.widen(4 * n);
            });
        }
    }

    private void perform(Deed deed) {
        deed.doneTo(x);
        deeds.add(deed);
    }
}
