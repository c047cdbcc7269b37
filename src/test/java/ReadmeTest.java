import java.io.IOException;
import java.lang.reflect.Method;
import java.lang.reflect.Modifier;
import java.nio.file.Files;
import java.nio.file.Path;
import java.util.regex.Matcher;
import java.util.regex.Pattern;

/** README.md: its example answers what it says there, and no call is left out. Run from the project's root. */
public final class ReadmeTest {
    private static final Pattern CALL = Pattern.compile("(?m)^boxes\\.(\\w+\\([^)]*\\)); +// (-?\\d+): ");

    public static void main(String[] args) throws IOException {
        String text = Files.readString(Path.of("README.md"));
        StringBuilder calls = new StringBuilder();
        int count = 0;
        for (Matcher call = CALL.matcher(text); call.find(); count++) {
            calls.append(call.group(1)).append(" = ").append(call.group(2)).append('\n');
        }
        Check.holds("README.md has an example: " + count + " calls", count >= 10);
        Check.holds("each line of it is read", text.split("(?m)^boxes\\.").length - 1 == count);
        Calls.run("README.md", calls.toString());
        for (Method method : NoticeBoxes.class.getDeclaredMethods()) {
            boolean isPublic = Modifier.isPublic(method.getModifiers());
            Check.holds("README.md tells of " + method, !isPublic || text.contains("`" + method.getName() + "("));
        }
        Check.end();
    }
}
