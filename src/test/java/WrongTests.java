import java.lang.reflect.InvocationTargetException;
import java.lang.reflect.Method;
import java.lang.reflect.Modifier;
import java.util.ArrayList;
import java.util.Comparator;
import java.util.List;
import java.util.NoSuchElementException;
import java.util.Random;

/** Any arguments in any state: nothing is thrown but NoSuchElementException, by the three calls that may. */
public final class WrongTests {
    private static final int[] ODD = {
        Integer.MIN_VALUE, Integer.MIN_VALUE + 1, -65536, -100, -9, -4, -3, -2, -1, 0, 1, 2, 3, 4, 5, 6, 7, 8, 9, 10, 11,
        12, 13, 30, 31, 32, 33, 35, 36, 37, 60, 61, 63, 64, 65, 80, 81, 99, 100, 101, 128, 999, 1000, 9999, 10000, 65536,
        Integer.MAX_VALUE - 1, Integer.MAX_VALUE};
    private static final String[] LANDS = {"~", "~2*/~11/#3*", "~00000/#####0/000000/0#####/000000/#####*", "*", "#", "9"};
    private static final String[] TEXTS = {
        "~1*", "~~~~~~/111111/222222/######/333333/******", "10,00;4,00", "5,00", "w*(1+u)", "h*h*h*999*999-w/g",
        "((((w))))", "w/(u-v)", "d01h1d01p01h9", "h9h9h9", "1234", "99", "", "-----w", "999*999*999*999"};

    public static void main(String[] args) throws IllegalAccessException {
        List<Method> calls = new ArrayList<>();
        for (Method m : OverTheHill.class.getDeclaredMethods()) {
            if (Modifier.isPublic(m.getModifiers())) {
                calls.add(m);
            }
        }
        calls.sort(Comparator.comparing(Method::getName));
        eachOddArgument(calls);
        for (int seed = 0; seed < 4000; seed++) {
            oddRun(calls, new Random(seed));
        }
        Checks.finish("WrongTests");
    }

    private static void eachOddArgument(List<Method> calls) throws IllegalAccessException {
        for (String land : LANDS) {
            OverTheHill x = Checks.landOf(land);
            Checks.tell(x, "10,00;4,00").ships();
            for (Method m : calls) {
                for (int a : ODD) {
                    for (int b : ODD) {
                        Object[] arguments = new Object[m.getParameterCount()];
                        for (int i = 0; i < arguments.length; i++) {
                            arguments[i] = i % 2 == 0 ? a : b;
                        }
                        call(x, m, arguments);
                    }
                    if (m.getParameterCount() < 1) {
                        break;
                    }
                }
            }
        }
    }

    private static void oddRun(List<Method> calls, Random random) throws IllegalAccessException {
        OverTheHill x = Checks.landOf(LANDS[random.nextInt(LANDS.length)]);
        for (int i = 0; i < 300; i++) {
            if (random.nextInt(4) == 0) {
                Checks.tell(x, TEXTS[random.nextInt(TEXTS.length)]);
            }
            Method m = calls.get(random.nextInt(calls.size()));
            Object[] arguments = new Object[m.getParameterCount()];
            for (int k = 0; k < arguments.length; k++) {
                arguments[k] = random.nextInt(3) > 0 ? random.nextInt(6)
                        : random.nextBoolean() ? ODD[random.nextInt(ODD.length)] : random.nextInt();
            }
            call(x, m, arguments);
        }
    }

    private static void call(OverTheHill x, Method m, Object[] arguments) throws IllegalAccessException {
        try {
            m.invoke(x, arguments);
        } catch (InvocationTargetException e) {
            boolean may = "field ship row".contains(m.getName()) && e.getCause() instanceof NoSuchElementException;
            Checks.due(m.getName() + java.util.Arrays.toString(arguments) + " throws " + e.getCause(), may, true);
        }
    }
}
