import java.io.IOException;
import java.lang.reflect.Method;
import java.lang.reflect.Modifier;
import java.nio.file.Files;
import java.nio.file.Path;
import java.util.regex.Matcher;
import java.util.regex.Pattern;

/** README.md tells how to use the class: what it tells must be so. */
public final class ReadmeTest {
    private static final Checks CHECK = new Checks();

    public static void main(String[] args) throws IOException, ReflectiveOperationException {
        String page = Files.readString(Path.of("README.md"));
        theExampleAnswersAsTold(page);
        theClausesAreTaken(page);
        noCallIsLeftOut(page);
        CHECK.end();
    }

    private static void theExampleAnswersAsTold(String page) throws ReflectiveOperationException {
        BentShares x = new BentShares();
        Matcher line = Pattern.compile("(?m)^x\\.(\\w+)\\((.*)\\);\\s*// (-?\\d+)").matcher(page);
        int lines = 0;
        while (line.find()) {
            lines++;
            CHECK.is(line.group(1) + "(" + line.group(2) + ")", call(x, line.group(1), line.group(2)), line.group(3));
        }
        CHECK.is("many lines of the example were called", lines >= 10, true);
    }

    private static String call(BentShares x, String name, String told) throws ReflectiveOperationException {
        String[] words = told.isEmpty() ? new String[0] : told.split(", ");
        Object[] numbers = new Object[words.length];
        for (int i = 0; i < words.length; i++) {
            numbers[i] = Integer.decode(words[i]);
        }
        for (Method m : BentShares.class.getDeclaredMethods()) {
            if (m.getName().equals(name) && Modifier.isPublic(m.getModifiers())) {
                return String.valueOf(m.invoke(x, numbers));
            }
        }
        return "there is no such call";
    }

    private static void theClausesAreTaken(String page) {
        Matcher row = Pattern.compile("(?m)^\\| `((class|flow)[^`]*)` \\|").matcher(page);
        int rows = 0;
        while (row.find()) {
            rows++;
            CHECK.is(row.group(1), Checks.link(new BentShares(), "class;class;class;class;class;" + row.group(1) + ";"), 0);
        }
        CHECK.is("many clauses were told", rows >= 4, true);
    }

    private static void noCallIsLeftOut(String page) {
        for (Method m : BentShares.class.getDeclaredMethods()) {
            if (Modifier.isPublic(m.getModifiers())) {
                CHECK.is("the table has `" + m.getName() + "`", page.contains("`" + m.getName() + "`"), true);
            }
        }
    }
}
