import java.io.IOException;
import java.nio.file.Files;
import java.nio.file.Path;
import java.util.regex.Matcher;
import java.util.regex.Pattern;

/** Those rules of LANGUAGE.md that can be seen in the text of the class. Run from the project's root. */
public final class LanguageTest {
    private static final String[] BANNED = {
        "\\b(throw|throws|try|catch|finally|synchronized|assert|native|volatile|transient)\\b",
        "->", "::", "\\bimport\\b", "\\bpackage\\b", "\\bnew \\w+\\s*\\([^)]*\\)\\s*\\{",
        "\\b(equals|hashCode|toString|getClass)\\b", "\\w+Exact\\b", "static\\s*\\{", "@\\w+",
        "\\b(currentTimeMillis|nanoTime|random|Random|Thread|getenv|getProperty)\\b",
        "\\b(double|float|Object|HashMap|Map|Set|Stream)\\b",
    };
    private static final Pattern METHOD = Pattern.compile("^ +[\\w\\[\\] ]+ \\w+\\(([^)]*)\\) \\{$");

    public static void main(String[] args) throws IOException {
        String text = Files.readString(Path.of("src/main/java/NoticeBoxes.java"));
        String code = text.replaceAll("(?s)/\\*.*?\\*/", "").replaceAll("//.*", "");
        for (String banned : BANNED) {
            Matcher found = Pattern.compile(banned).matcher(code);
            Check.holds("none of " + banned, !found.find());
        }
        Check.holds("only signs of 7 bits", text.chars().allMatch(c -> c < 128));
        Matcher classes = Pattern.compile("\\b(class|record|enum|interface) \\w+").matcher(code);
        Check.holds("at most twelve classes", classes.results().count() <= 12);
        lookAtMethods(text.split("\n"));
        Check.end();
    }

    private static void lookAtMethods(String[] lines) {
        for (int i = 0; i < lines.length; i++) {
            Matcher method = METHOD.matcher(lines[i]);
            if (!method.matches() || lines[i].contains(" else ")) {
                continue;
            }
            String indent = lines[i].substring(0, lines[i].length() - lines[i].stripLeading().length());
            int end = i;
            while (end < lines.length && !lines[end].equals(indent + "}")) {
                end++;
            }
            Check.holds("short: " + lines[i].trim(), end - i <= 60);
            Check.holds("at most seven parameters: " + lines[i].trim(), method.group(1).split(",").length <= 7);
        }
    }
}
