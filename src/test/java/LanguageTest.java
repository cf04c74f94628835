import java.nio.charset.StandardCharsets;
import java.nio.file.Files;
import java.nio.file.Path;
import java.util.regex.Matcher;
import java.util.regex.Pattern;

/** Rules of LANGUAGE.md that can be seen in the text of the class. Its path is the argument. */
public final class LanguageTest {
    private static final String[] BANNED = {
        "\\b(throw|throws|try|catch|finally|synchronized|assert|import|package|volatile|transient|native)\\b",
        "->", "::", "\\bvar\\b", "\\b(equals|hashCode|toString|getClass)\\b", "Exact\\b",
        "\\b(Thread|Random|Object|Runtime|Process|Map|Set|Collections|Optional|Stream)\\b",
        "\\bSystem\\.(?!arraycopy\\b)", "\\bMath\\.(?!max\\b|min\\b|abs\\b|floorDiv\\b|floorMod\\b)",
        "\\bInteger\\.(?!bitCount\\b|compare\\b|max\\b|min\\b|MAX_VALUE\\b|MIN_VALUE\\b)",
        "\\bwhile \\(true\\)", "for \\(;;\\)", "\"\\s*\\+", "\\+\\s*\"",
    };

    private static final Check check = new Check();

    public static void main(String[] args) throws Exception {
        String all = new String(Files.readAllBytes(Path.of(args[0])), StandardCharsets.UTF_8);
        for (int i = 0; i < all.length(); i++) {
            if (all.charAt(i) > 126) {
                check.same("a sign beyond 126 at " + i, all.charAt(i), 126);
            }
        }
        String text = all.replaceAll("(?s)/\\*.*?\\*/", "").replaceAll("//[^\n]*", "");
        for (String banned : BANNED) {
            Matcher found = Pattern.compile(banned).matcher(text);
            boolean any = found.find();
            check.holds("no " + banned + (any ? " as in '" + found.group() + "'" : ""), !any);
        }
        methods(text);
        check.close();
    }

    /** Methods are what opens a brace behind a bracket at the depths where methods stand. */
    private static void methods(String text) {
        Pattern head = Pattern.compile("\\n((?:    ){1,2})(?! )[^\\n=;]*?(\\w+)\\(([^)\\n]*)\\) \\{\\n");
        Matcher found = head.matcher(text);
        int methods = 0;
        while (found.find()) {
            methods++;
            String name = found.group(2);
            int end = text.indexOf("\n" + found.group(1) + "}", found.end() - 1);
            int lines = text.substring(found.end(), end + 1).split("\n").length;
            check.holds(name + " is of some sixty lines at most: " + lines, lines <= 60);
            int parameters = found.group(3).isEmpty() ? 0 : found.group(3).split(",").length;
            check.holds(name + " takes seven parameters at most", parameters <= 7);
            String body = text.substring(found.end(), end + 1);
            boolean callsItself = Pattern.compile("(?<![.\\w])" + name + "\\(").matcher(body).find();
            check.holds(name + " calls itself only if it is private and static",
                !callsItself || found.group().contains("private static "));
        }
        check.holds("methods were found: " + methods, methods > 80);
    }
}
