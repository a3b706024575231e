import java.lang.reflect.Method;
import java.lang.reflect.Modifier;
import java.util.Arrays;
import java.util.Comparator;
import java.util.Random;

/** No call throws, whatever its arguments, in whatever state, and asking changes nothing. */
public final class WrongInputsTest {
    private static final String[] TOWNS = {"", "person 3 7;", Check.FOUR, "person 0 0;".repeat(6),
        "person 9 99;".repeat(6) + "owes 0 1 30;owes 1 2 30;owes 2 0 30;owes 5 4 9;hate 0 1;hate 2 3;hate 4 5;hate 1 5;"};
    private static final String[] WEEKS = {"", "hour;".repeat(40), "sit 5 4;sit 1 0;hour;lend 5 0 3;", "silent 5;talks 0;"};
    private static final String[] LOGS = {"", "together 0 1;apart 4 5;", "apart 0 1;".repeat(8)};
    private static final int[] EDGES = {Integer.MIN_VALUE, Integer.MIN_VALUE + 99, -100, -3, -2, -1, 0, 1, 2, 3, 4, 5, 6, 7, 9,
        10, 11, 12, 13, 15, 16, 19, 20, 25, 26, 29, 30, 35, 36, 40, 41, 60, 61, 99, 100, 101, 155, 156, 160, 199, 200, 601,
        Integer.MAX_VALUE - 9, Integer.MAX_VALUE};

    public static void main(String[] args) throws Exception {
        Method[] asks = face();
        Random random = new Random(3);
        for (int round = 0; round < 1500; round++) {
            KeptCompany x = new KeptCompany();
            tell(x, random);
            for (int call = 0; call < 200; call++) {
                ask(x, asks[random.nextInt(asks.length)], random);
            }
        }
        askingChangesNothing(asks, random);
        Check.finish("WrongInputsTest");
    }

    private static Method[] face() {
        Method[] all = Arrays.stream(KeptCompany.class.getDeclaredMethods())
            .filter(m -> Modifier.isPublic(m.getModifiers()))
            .sorted(Comparator.comparing(Method::getName)).toArray(Method[]::new);
        Check.due("methods of the face", all.length, 36);
        return all;
    }

    private static void tell(KeptCompany x, Random random) {
        for (int i = random.nextInt(3); i > 0; i--) {
            Check.tell(x, 0, -1, TOWNS[random.nextInt(TOWNS.length)]);
            Check.tell(x, 1, -1, WEEKS[random.nextInt(WEEKS.length)]);
            Check.tell(x, 2, -1, LOGS[random.nextInt(LOGS.length)]);
        }
    }

    private static Object[] arguments(Method method, Random random) {
        Class<?>[] types = method.getParameterTypes();
        Object[] some = new Object[types.length];
        for (int i = 0; i < some.length; i++) {
            int edge = random.nextInt(3) == 0 ? EDGES[random.nextInt(EDGES.length)] : random.nextInt(4) - 1;
            some[i] = types[i] == boolean.class ? (Object) random.nextBoolean() : (Object) edge;
        }
        return some;
    }

    private static Object ask(KeptCompany x, Method method, Random random) {
        Object[] some = arguments(method, random);
        try {
            return method.invoke(x, some);
        } catch (ReflectiveOperationException e) {
            Check.due(method.getName() + Arrays.toString(some) + " threw " + e.getCause(), true, false);
            return null;
        }
    }

    /** One object is asked in between, the other is not: both answer alike. */
    private static void askingChangesNothing(Method[] asks, Random random) throws Exception {
        KeptCompany quiet = Check.with(Check.FOUR, Check.WEEK, "sit 1 0;hour;sit 2 0;lend 1 2 9;");
        KeptCompany asked = Check.with(Check.FOUR, Check.WEEK, "sit 1 0;hour;sit 2 0;lend 1 2 9;");
        Check.tell(quiet, Check.LOG, -1, "apart 0 2;");
        Check.tell(asked, Check.LOG, -1, "apart 0 2;");
        for (int i = 0; i < 200000; i++) {
            Method method = asks[random.nextInt(asks.length)];
            if ("feed end text image again".contains(method.getName())) {
                continue;
            }
            if (i % 10 != 0) {
                ask(asked, method, random);
                continue;
            }
            Object[] some = arguments(method, random);
            Object want = method.invoke(quiet, some);
            Check.due(method.getName() + Arrays.toString(some), method.invoke(asked, some).equals(want), true);
        }
    }
}
