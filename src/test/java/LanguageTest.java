import java.io.IOException;
import java.nio.file.Files;
import java.nio.file.Path;
import java.util.List;
import java.util.regex.Matcher;
import java.util.regex.Pattern;

/** A light look at BentShares.java by ../shared/LANGUAGE.md: what a search in the source can tell. */
public final class LanguageTest {
    private static final List<String> BANNED = List.of("->", "::", "\\bcatch\\b", "\\bfinally\\b", "\\bassert\\b",
            "\\bsynchronized\\b", "\\bstatic\\s*\\{", "\\bstatic\\s+(int|long|boolean|char|String|int\\[\\])\\s+\\w+\\s*[=;]",
            "\\bvar\\b", "\\bObject\\b", "\\bboolean\\[\\]", "\\bboolean\\[", "Exact\\(", "\\bpackage\\b", "\\bSystem\\.(?!arraycopy)",
            "\\bRandom\\b", "\"\\s*\\+|\\+\\s*\"", "\\bMath\\.(?!max|min|abs)", "\\bprotected\\b", "\\bnew \\w+\\[[^\\]]*\\]\\[");
    private static final List<String> FACE = List.of("feed", "link", "fault", "count", "of", "curve", "packet", "due", "come",
            "units", "change", "empty", "lift", "stop", "undo", "together", "toGrant", "bound", "then", "next", "waits", "longest",
            "toShare", "toCap", "blocked", "spread", "note", "other", "look", "forget", "storms", "years", "told", "image",
            "restore");

    public static void main(String[] args) throws IOException {
        String source = Files.readString(Path.of("src/main/java/BentShares.java"));
        String code = source.replaceAll("(?s)/\\*.*?\\*/", "").replaceAll("//[^\n]*", "");
        int wrong = 0;
        for (String banned : BANNED) {
            wrong += found(code, banned) ? 1 : 0;
        }
        // Four blanks stand ahead of the outer class's methods, eight ahead of those of the classes inside it.
        for (String name : FACE) {
            wrong += found(code, "\n {8}(private |static |final )*\\w+(\\[\\])? " + name + "\\(") ? 1 : 0;
            wrong += found(code, "\n {4}private (static )?\\w+ " + name + "\\(") ? 1 : 0;
        }
        for (String imported : code.split("\n")) {
            boolean known = !imported.startsWith("import") || imported.equals("import java.util.Arrays;")
                    || imported.equals("import java.util.NoSuchElementException;");
            if (!known) {
                wrong++;
                System.out.println("not to be imported: " + imported);
            }
        }
        wrong += longMethods(code);
        if (wrong > 0) {
            System.exit(1);
        }
    }

    private static boolean found(String code, String banned) {
        Matcher m = Pattern.compile(banned).matcher(code);
        boolean is = m.find();
        if (is) {
            System.out.println("stands in BentShares.java: " + m.group().trim() + " (" + banned + ")");
        }
        return is;
    }

    private static int longMethods(String code) {
        int wrong = 0;
        Matcher m = Pattern.compile("(?ms)^( {4}| {8})\\S[^\n;]*?(\\w+)\\(([^)]*)\\)[^\n;]*\\{\n(.*?)^\\1\\}").matcher(code);
        int methods = 0;
        while (m.find()) {
            methods++;
            int lines = m.group(4).split("\n").length;
            int parameters = m.group(3).isBlank() ? 0 : m.group(3).split(",").length;
            if (lines > 60 || parameters > 7) {
                wrong++;
                System.out.println(m.group(2) + " has " + lines + " lines and " + parameters + " parameters");
            }
        }
        if (methods < 36) {
            wrong++;
            System.out.println("only " + methods + " methods were looked at");
        }
        return wrong;
    }
}
