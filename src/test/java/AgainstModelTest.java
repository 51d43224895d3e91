import java.lang.reflect.InvocationTargetException;
import java.lang.reflect.Method;
import java.util.ArrayList;
import java.util.HashMap;
import java.util.List;
import java.util.Map;
import java.util.Random;

/** Random runs of calls, each answered by BentShares and by PlainModel: the answers must be the same. */
public final class AgainstModelTest {
    private static final Map<String, Method> METHODS = new HashMap<>();
    private static final Map<String, Integer> CALLED = new HashMap<>();
    private static int wrong = 0;

    private final Random random;
    private final BentShares mine = new BentShares();
    private final PlainModel plain = new PlainModel();
    private final List<String> calls = new ArrayList<>();
    // In some runs nothing is taken back, so that much is laid and the time comes near its end.
    private final boolean onward;
    // In some of these, packets are so small and rare that classes wake all the time, ahead of their curves' bends.
    private final boolean light;
    private boolean broken = false;

    private AgainstModelTest(long seed) {
        // Seeds that are near one another begin alike.
        random = new Random(seed * 0x9E3779B97F4A7C15L);
        onward = random.nextInt(4) == 0;
        light = onward && random.nextInt(2) == 0;
    }

    public static void main(String[] args) {
        int runs = args.length > 0 ? Integer.parseInt(args[0]) : 400;
        int from = args.length > 1 ? Integer.parseInt(args[1]) : 1;
        for (int seed = from; seed < from + runs && wrong < 5; seed++) {
            new AgainstModelTest(seed).run();
        }
        for (Method m : BentShares.class.getDeclaredMethods()) {
            boolean face = java.lang.reflect.Modifier.isPublic(m.getModifiers());
            if (face && !CALLED.containsKey(m.getName())) {
                System.out.println("no run called " + m.getName());
                wrong++;
            }
        }
        if (args.length > 0) {
            System.out.println(CALLED);
        }
        if (wrong > 0) {
            System.exit(1);
        }
    }

    private void run() {
        if (random.nextInt(20) > 0) {
            tell(light ? lightText() : text());
        }
        int many = onward ? 500 : 40 + random.nextInt(200);
        for (int i = 0; i < many && calls.size() < 500 && !broken; i++) {
            int which = random.nextInt(100);
            if (which < 50) {
                act();
            } else if (which < 68) {
                ask();
            } else if (which < 96) {
                lookAhead();
            } else if (which < 98) {
                dear();
            } else if (random.nextInt(12) == 0 && !onward) {
                tell(random.nextInt(3) == 0 ? spoil(text()) : text());
            }
        }
    }

    // ---- what is called

    private void act() {
        int which = random.nextInt(100);
        if (light) {
            which = random.nextInt(40) == 0 ? 70 : random.nextInt(62);
        } else if (onward && which > 65 && which < 80) {
            which = random.nextInt(62);
        }
        if (which < 40) {
            call("come", cls(), number(1, light ? 3 : 64));
        } else if (which < 62) {
            call("units", random.nextInt(3) == 0 ? number(1, onward ? 40 : 100) : number(1, 12));
        } else if (which < 78) {
            int[] c = curve();
            call("change", cls(), number(0, 2), c[0], c[1], c[2]);
        } else if (which < 82) {
            call("empty", cls());
        } else if (which < 86) {
            call("lift", cls(), number(0, 2));
        } else if (which < 90 || onward) {
            call("stop", number(0, 7));
        } else if (which < 95) {
            call("undo");
        } else if (which < 97) {
            call("image");
        } else {
            call("restore");
        }
    }

    private void ask() {
        int which = random.nextInt(100);
        if (which < 25) {
            call("count", number(0, 17));
        } else if (which < 60) {
            call("of", cls(), number(0, 9));
        } else if (which < 65) {
            call("curve", cls(), number(0, 2), number(0, 2));
        } else if (which < 70) {
            call("packet", cls(), number(0, 5));
        } else if (which < 90) {
            call("due", cls(), number(0, 2));
        } else if (which < 95) {
            call("told", cls(), number(-1, 30));
        } else if (which < 97) {
            call("fault");
        } else {
            for (int what = 0; what < 18; what++) {
                call("count", what);
            }
        }
    }

    private void lookAhead() {
        int which = random.nextInt(100);
        if (which < 4) {
            call("together", number(0, 2));
        } else if (which < 7) {
            call("toGrant", number(0, 30), number(1, 100));
        } else if (which < 10) {
            call("bound", cls(), number(1, 999));
        } else if (which < 30) {
            call("then", cls(), number(0, 400), number(0, 5));
        } else if (which < 45) {
            call("next", number(1, 20), number(0, 2));
        } else if (which < 55) {
            call("waits", cls());
        } else if (which < 65) {
            call("longest", cls(), number(1, 200));
        } else if (which < 75) {
            call("blocked", cls(), cls());
        } else if (which < 85) {
            call("spread", random.nextBoolean() ? -1 : cls(), number(0, 400));
        } else if (which < 91) {
            call("storms", number(0, 7), number(1, 3), number(0, 10), number(-1, 40));
        } else {
            call("years", random.nextInt(), number(0, 60), number(0, 2));
        }
    }

    private void dear() {
        int which = random.nextInt(100);
        if (which < 25) {
            call("toShare", cls(), number(1, 120), number(1, 200));
        } else if (which < 50) {
            call("toCap", cls(), cls(), number(0, 399));
        } else if (which < 60) {
            call("forget");
        } else if (which < 65) {
            call("storms", number(0, 7), number(4, 5), number(0, 10), number(0, 40));
        } else {
            noteSomething();
        }
    }

    private void noteSomething() {
        int many = random.nextInt(3);
        for (int i = 0; i < many; i++) {
            int cls = cls();
            int units = number(0, 100);
            call("note", cls, units, truth(cls, units));
        }
        if (random.nextInt(10) == 0) {
            call("note", cls(), number(0, 100), number(0, 9999));
        }
        call("other", number(0, 2));
        call(random.nextBoolean() ? "other" : "look", number(0, 1));
    }

    /** What is noted at random hardly ever holds: mostly it is what comes, or near it. */
    private int truth(int cls, int units) {
        try {
            int more = plain.then(cls, units, 0) - plain.of(cls, 3);
            return more + (random.nextInt(4) == 0 ? random.nextInt(20) : 0);
        } catch (RuntimeException e) {
            return random.nextInt(50);
        }
    }

    // ---- numbers and texts

    private int number(int least, int most) {
        if (random.nextInt(40) == 0) {
            int[] odd = {least - 1, most + 1, least, most, -1, Integer.MAX_VALUE, Integer.MIN_VALUE};
            return odd[random.nextInt(odd.length)];
        }
        return least + random.nextInt(most - least + 1);
    }

    private int cls() {
        int classes = plain.count(0);
        return classes == 0 || random.nextInt(30) == 0 ? number(0, 11) : random.nextInt(classes);
    }

    private int[] curve() {
        int[] m1 = {0, 1, 5, 10, 33, 50, 100, number(0, 100)};
        int[] d = {0, 0, 1, 10, 20, 30, number(0, 30)};
        int[] m2 = {1, 3, 10, 20, 50, 100, number(1, 100)};
        return new int[] {m1[random.nextInt(m1.length)], d[random.nextInt(d.length)], m2[random.nextInt(m2.length)]};
    }

    private String text() {
        StringBuilder text = new StringBuilder();
        int classes = 1 + random.nextInt(random.nextInt(4) == 0 ? 13 : 6);
        int mostFlows = random.nextInt(4) == 0 ? 9 : 4;
        int flows = 0;
        boolean[] inner = new boolean[20];
        boolean[] flat = new boolean[20];
        for (int cls = 0; cls < classes; cls++) {
            text.append("class");
            int in = cls == 0 ? -1 : random.nextInt(cls);
            if (in >= 0 && !flat[in] && random.nextInt(3) > 0) {
                text.append(" in ").append(in);
                inner[in] = true;
            }
            String[] words = {" grant", " share", " upper"};
            for (int k = 0; k < 3; k++) {
                if (random.nextInt(k == 0 ? 4 : 3) == 0) {
                    int[] c = curve();
                    text.append(words[k]).append(' ').append(Math.max(0, Math.min(100, c[0]))).append(' ')
                            .append(Math.max(0, Math.min(30, c[1]))).append(' ').append(Math.max(1, Math.min(100, c[2])));
                    flat[cls] |= k == 0;
                }
            }
            text.append(";");
            if (flows < mostFlows && random.nextInt(3) == 0) {
                flat[cls] = true;
                flows++;
                text.append(flow(cls));
            }
        }
        for (int i = 0; i < 3 && flows < mostFlows; i++) {
            int cls = random.nextInt(classes);
            if (!inner[cls]) {
                flows++;
                text.append(flow(cls));
            }
        }
        return text.toString();
    }

    private String lightText() {
        StringBuilder text = new StringBuilder("class;");
        int classes = 1 + random.nextInt(4);
        for (int cls = 0; cls < classes; cls++) {
            text.append("class").append(random.nextBoolean() ? " in 0" : "");
            String[] words = {" grant", " share", " upper"};
            for (String word : words) {
                int steep = random.nextInt(3);
                text.append(word).append(' ').append(steep == 0 ? 0 : 20 + random.nextInt(81)).append(' ').append(random.nextInt(31))
                        .append(' ').append(1 + random.nextInt(steep == 2 ? 10 : 100));
            }
            text.append(";flow ").append(cls + 1).append(' ').append(4 + random.nextInt(20)).append(' ').append(random.nextInt(4))
                    .append(' ').append(1 + random.nextInt(2)).append(';');
        }
        return text.toString();
    }

    private String flow(int cls) {
        int every = random.nextInt(3) == 0 ? 1 + random.nextInt(200) : 1 + random.nextInt(30);
        int phase = random.nextInt(random.nextInt(10) == 0 ? 200 : every);
        int size = 1 + random.nextInt(random.nextBoolean() ? 64 : 15);
        return "flow " + cls + " " + every + " " + phase + " " + size + ";";
    }

    private String spoil(String text) {
        StringBuilder spoilt = new StringBuilder(text);
        int many = 1 + random.nextInt(2);
        for (int i = 0; i < many && spoilt.length() > 0; i++) {
            int at = random.nextInt(spoilt.length());
            String signs = " \n;a0199\u00e9Zi";
            switch (random.nextInt(3)) {
                case 0 -> spoilt.deleteCharAt(at);
                case 1 -> spoilt.insert(at, signs.charAt(random.nextInt(signs.length())));
                default -> spoilt.setCharAt(at, signs.charAt(random.nextInt(signs.length())));
            }
        }
        return spoilt.toString();
    }

    private void tell(String text) {
        int pieces = (text.length() + 19) / 20;
        for (int p = 0; p < pieces; p++) {
            int[] numbers = new int[5];
            for (int i = 0; i < 20; i++) {
                int at = p * 20 + i;
                int sign = at < text.length() ? text.charAt(at) : ' ';
                numbers[i / 4] = numbers[i / 4] << 8 | sign;
            }
            call("feed", numbers);
        }
        call("link", random.nextInt(30) == 0 ? number(0, 700) : Math.min(text.length(), plain.count(14)));
        call("fault");
    }

    // ---- how it is called

    private void call(String name, int... numbers) {
        if (broken) {
            return;
        }
        String told = name + java.util.Arrays.toString(numbers);
        calls.add(told);
        CALLED.merge(name, 1, Integer::sum);
        String due = answer(plain, name, numbers);
        String got = answer(mine, name, numbers);
        if (!due.equals(got)) {
            broken = true;
            wrong++;
            System.out.println("behind " + calls + ": answered " + got + ", due is " + due);
        }
    }

    private static String answer(Object target, String name, int[] numbers) {
        Method method = METHODS.computeIfAbsent(target.getClass().getName() + name, k -> find(target, name));
        Object[] boxed = java.util.Arrays.stream(numbers).boxed().toArray();
        try {
            return String.valueOf(method.invoke(target, boxed));
        } catch (InvocationTargetException e) {
            return "throws." + e.getCause().getClass().getSimpleName();
        } catch (IllegalAccessException e) {
            throw new IllegalStateException(e);
        }
    }

    private static Method find(Object target, String name) {
        for (Method m : target.getClass().getDeclaredMethods()) {
            if (m.getName().equals(name) && java.lang.reflect.Modifier.isPublic(m.getModifiers())) {
                return m;
            }
        }
        throw new IllegalStateException(name);
    }
}
