import java.lang.reflect.InvocationTargetException;
import java.lang.reflect.Method;
import java.lang.reflect.Modifier;
import java.util.Arrays;
import java.util.Comparator;
import java.util.NoSuchElementException;
import java.util.function.IntSupplier;

/** What the tests of the promises have in common: each check that fails is printed, the end exits with 1 then. */
final class Checks {
    private int wrong = 0;
    private String test = "";

    /** A new object that was told a text. */
    static BentShares linked(String text) {
        BentShares x = new BentShares();
        link(x, text);
        return x;
    }

    static int link(BentShares x, String text) {
        feed(x, text);
        return x.link(text.length());
    }

    /** Feeds a text, padded with blanks to whole twenties. */
    static void feed(BentShares x, String text) {
        for (int from = 0; from < text.length(); from += 20) {
            int[] numbers = new int[5];
            for (int i = 0; i < 20; i++) {
                int sign = from + i < text.length() ? text.charAt(from + i) : ' ';
                numbers[i / 4] = numbers[i / 4] << 8 | sign;
            }
            x.feed(numbers[0], numbers[1], numbers[2], numbers[3], numbers[4]);
        }
    }

    static void comes(BentShares x, int leaf, int... sizes) {
        for (int size : sizes) {
            x.come(leaf, size);
        }
    }

    static void passes(BentShares x, int units) {
        for (int left = units; left > 0; left -= 100) {
            x.units(Math.min(100, left));
        }
    }

    static String told(BentShares x, int cls) {
        StringBuilder text = new StringBuilder();
        for (int i = 0; i < x.told(cls, -1); i++) {
            text.append((char) x.told(cls, i));
        }
        return text.toString();
    }

    /** All that can be asked of an object, what comes of it too, but for the tape and STATUS. */
    static String all(BentShares x) {
        StringBuilder text = new StringBuilder();
        for (int what = 0; what < 14; what++) {
            text.append(x.count(what)).append(' ');
        }
        text.append("fault ").append(x.fault()).append(" other ").append(x.other(0)).append(' ').append(x.other(2));
        for (int i = 1; i <= 5; i++) {
            text.append(" next ").append(x.next(i, 0)).append(' ').append(x.next(i, 1)).append(' ').append(x.next(i, 2));
        }
        for (int cls = 0; cls < x.count(0); cls++) {
            text.append('\n').append(told(x, cls));
            for (int what = 0; what < 10; what++) {
                text.append(' ').append(x.of(cls, what));
            }
            for (int i = 0; i < x.of(cls, 8); i++) {
                text.append(" packet ").append(x.packet(cls, i));
            }
            for (int what = 0; what < 3; what++) {
                int asked = cls;
                int of = what;
                text.append(" due ").append(answer(() -> x.due(asked, of)));
            }
            for (int what = 0; what < 6; what++) {
                text.append(" then ").append(x.then(cls, 130, what));
            }
        }
        return text.toString();
    }

    static String status(BentShares x) {
        return x.count(15) + " " + x.count(16) + " " + x.count(17);
    }

    void is(String what, long got, long due) {
        if (got != due) {
            fails(what + ": answered " + got + ", due is " + due);
        }
    }

    void is(String what, boolean got, boolean due) {
        is(what, got ? 1 : 0, due ? 1 : 0);
    }

    void is(String what, String got, String due) {
        if (!got.equals(due)) {
            fails(what + ": answered '" + got + "', due is '" + due + "'");
        }
    }

    void noSuch(String what, IntSupplier call) {
        is(what + " throws", answer(call), "NoSuchElementException");
    }

    void illegal(String what, IntSupplier call) {
        is(what + " throws", answer(call), "IllegalArgumentException");
    }

    /** A refused act answers so, is counted as one, and changes nothing else. */
    void refused(String what, BentShares x, IntSupplier act, int answer) {
        String before = all(x);
        int refusedBefore = x.count(16);
        is(what, act.getAsInt(), answer);
        is(what + " is counted", x.count(16), refusedBefore + 1);
        is(what + " changes nothing", all(x), before);
    }

    void refused(String what, BentShares x, IntSupplier act) {
        refused(what, x, act, BentShares.NONE);
    }

    private static String answer(IntSupplier call) {
        try {
            return String.valueOf(call.getAsInt());
        } catch (NoSuchElementException | IllegalArgumentException e) {
            return e.getClass().getSimpleName();
        }
    }

    private void fails(String message) {
        wrong++;
        System.out.println(test.isEmpty() ? message : test + ": " + message);
    }

    /** Runs each method of a test whose name begins with a promise's number, so that none is left out. */
    void runAll(Class<?> tests) {
        Method[] methods = tests.getDeclaredMethods();
        Arrays.sort(methods, Comparator.comparing(Method::getName));
        int ran = 0;
        for (Method m : methods) {
            if (m.getName().startsWith("promise") && Modifier.isStatic(m.getModifiers()) && m.getParameterCount() == 0) {
                run(m);
                ran++;
            }
        }
        System.out.println(tests.getSimpleName() + ": " + ran + " tests, " + wrong + " wrong answers");
        end();
    }

    private void run(Method m) {
        test = m.getName();
        try {
            m.setAccessible(true);
            m.invoke(null);
        } catch (InvocationTargetException e) {
            fails("threw " + e.getCause());
        } catch (IllegalAccessException e) {
            fails("can't be run");
        }
    }

    void end() {
        if (wrong > 0) {
            System.exit(1);
        }
    }
}
