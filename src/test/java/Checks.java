import java.util.NoSuchElementException;
import java.util.function.IntSupplier;

/** What the tests of the promises have in common: each check that fails is printed, the end exits with 1 then. */
final class Checks {
    private int wrong = 0;

    /** A new object that was told a text. */
    static BentShares linked(String text) {
        BentShares x = new BentShares();
        link(x, text);
        return x;
    }

    static int link(BentShares x, String text) {
        feed(x, text);
        return x.link(text.length());
    }

    /** Feeds a text, padded with blanks to whole twenties. */
    static void feed(BentShares x, String text) {
        for (int from = 0; from < text.length(); from += 20) {
            int[] numbers = new int[5];
            for (int i = 0; i < 20; i++) {
                int sign = from + i < text.length() ? text.charAt(from + i) : ' ';
                numbers[i / 4] = numbers[i / 4] << 8 | sign;
            }
            x.feed(numbers[0], numbers[1], numbers[2], numbers[3], numbers[4]);
        }
    }

    static String told(BentShares x, int cls) {
        StringBuilder text = new StringBuilder();
        for (int i = 0; i < x.told(cls, -1); i++) {
            text.append((char) x.told(cls, i));
        }
        return text.toString();
    }

    void is(String what, long got, long due) {
        if (got != due) {
            wrong++;
            System.out.println(what + ": answered " + got + ", due is " + due);
        }
    }

    void is(String what, boolean got, boolean due) {
        is(what, got ? 1 : 0, due ? 1 : 0);
    }

    void is(String what, String got, String due) {
        if (!got.equals(due)) {
            wrong++;
            System.out.println(what + ": answered '" + got + "', due is '" + due + "'");
        }
    }

    void noSuch(String what, IntSupplier call) {
        is(what + " throws", thrown(call), "NoSuchElementException");
    }

    void illegal(String what, IntSupplier call) {
        is(what + " throws", thrown(call), "IllegalArgumentException");
    }

    private static String thrown(IntSupplier call) {
        try {
            return "nothing but answers " + call.getAsInt();
        } catch (NoSuchElementException | IllegalArgumentException e) {
            return e.getClass().getSimpleName();
        }
    }

    void end() {
        if (wrong > 0) {
            System.exit(1);
        }
    }
}
