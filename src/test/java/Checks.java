import java.lang.reflect.InvocationTargetException;
import java.lang.reflect.Method;
import java.util.Arrays;
import java.util.Comparator;
import java.util.NoSuchElementException;

/** What the tests share: telling texts, comparing answers, and the end of a test. */
final class Checks {
    interface Call {
        long answer();
    }

    private static int asked = 0;
    private static int wrong = 0;

    private Checks() {
    }

    static void due(String call, long got, long want) {
        asked++;
        if (got != want) {
            wrong++;
            System.out.println(call + " answered " + got + ", due is " + want);
        }
    }

    static void due(String call, boolean got, boolean want) {
        due(call, got ? 1 : 0, want ? 1 : 0);
    }

    static void rowDue(String call, OverTheHill x, long... want) {
        due(call + ": numbers of the row", x.count(14), want.length);
        for (int i = 0; i < want.length && i < x.count(14); i++) {
            due(call + ": row(" + i + ")", x.row(i), want[i]);
        }
        noSuch(call + ": row(-1)", () -> x.row(-1));
        noSuch(call + ": row(" + want.length + ")", () -> x.row(want.length));
    }

    static void noSuch(String call, Call what) {
        boolean thrown = false;
        try {
            what.answer();
        } catch (NoSuchElementException e) {
            thrown = true;
        }
        due(call + " throws NoSuchElementException", thrown, true);
    }

    /** THE TEXT becomes this one. */
    static OverTheHill tell(OverTheHill x, String text) {
        x.end(0);
        for (int i = 0; i < text.length(); i += 4) {
            int v = 0;
            for (int k = i; k < i + 4; k++) {
                v = v << 8 | (k < text.length() ? text.charAt(k) & 255 : 0);
            }
            x.sign(v);
        }
        if (!x.end(text.length())) {
            throw new IllegalStateException("the test's text is too long: " + text);
        }
        return x;
    }

    static OverTheHill landOf(String land) {
        OverTheHill x = new OverTheHill();
        int fields = tell(x, land).land();
        if (fields < 1) {
            throw new IllegalStateException("the test's land is wrong: " + land);
        }
        return x;
    }

    static OverTheHill landOf(String land, String ships) {
        OverTheHill x = landOf(land);
        if (tell(x, ships).ships() < 0) {
            throw new IllegalStateException("the test's ships are wrong: " + ships);
        }
        return x;
    }

    static OverTheHill ruled(OverTheHill x, String rule) {
        if (tell(x, rule).rule() != 0) {
            throw new IllegalStateException("the test's rule is wrong: " + rule);
        }
        return x;
    }

    /** Runs each method named by a promise or the terms, so that none of them can be left out. */
    static void runEach(Class<?> tests) throws IllegalAccessException, InvocationTargetException {
        Method[] all = tests.getDeclaredMethods();
        Arrays.sort(all, Comparator.comparing(Method::getName));
        for (Method m : all) {
            if (m.getName().startsWith("promise") || m.getName().startsWith("terms")) {
                int before = asked;
                m.setAccessible(true);
                m.invoke(null);
                due(m.getName() + " asks something", asked > before, true);
            }
        }
        finish(tests.getName());
    }

    static void finish(String name) {
        System.out.println(name + ": " + asked + " asked, " + wrong + " wrong");
        if (wrong != 0 || asked == 0) {
            System.exit(1);
        }
    }
}
