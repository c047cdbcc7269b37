import java.lang.reflect.InvocationTargetException;
import java.lang.reflect.Method;
import java.util.Arrays;
import java.util.regex.Matcher;
import java.util.regex.Pattern;

/** Calls by their names, and runs of calls written as text. */
public final class Calls {
    private static final Pattern CALL = Pattern.compile("(\\w+)\\(([^)]*)\\) = (\\S+)");

    private Calls() {
    }

    public static String written(String name, int... args) {
        String list = Arrays.toString(args);
        return name + "(" + list.substring(1, list.length() - 1) + ")";
    }

    public static int answer(Object target, String name, int... args) {
        Class<?>[] types = new Class<?>[args.length];
        Arrays.fill(types, int.class);
        Object[] boxed = Arrays.stream(args).boxed().toArray();
        try {
            Method method = target.getClass().getMethod(name, types);
            return (Integer) method.invoke(target, boxed);
        } catch (InvocationTargetException e) {
            throw new IllegalStateException(written(name, args) + " threw " + e.getCause(), e.getCause());
        } catch (ReflectiveOperationException e) {
            throw new IllegalStateException("no such call: " + written(name, args), e);
        }
    }

    /** On a new object: calls with their due answers, by lines or semicolons; # begins a remark. */
    public static void run(String title, String text) {
        NoticeBoxes target = new NoticeBoxes();
        for (String line : text.split("\n")) {
            for (String one : line.replaceFirst("#.*", "").split(";")) {
                if (!one.isBlank()) {
                    runOne(title, target, one.trim());
                }
            }
        }
    }

    private static void runOne(String title, NoticeBoxes target, String text) {
        Matcher call = CALL.matcher(text);
        if (!call.matches()) {
            throw new IllegalArgumentException(title + ": can't read '" + text + "'");
        }
        String list = call.group(2).trim();
        int[] args = list.isEmpty() ? new int[0]
                : Arrays.stream(list.split(",")).map(String::trim).mapToInt(Integer::parseInt).toArray();
        Check.due(title + ": " + written(call.group(1), args), answer(target, call.group(1), args), due(call.group(3)));
    }

    private static int due(String text) {
        switch (text) {
            case "NONE": return NoticeBoxes.NONE;
            case "UNKNOWN": return NoticeBoxes.UNKNOWN;
            case "OUTSIDE": return NoticeBoxes.OUTSIDE;
            case "NOT": return NoticeBoxes.NOT;
            case "FULL": return NoticeBoxes.FULL;
            default: return Integer.parseInt(text);
        }
    }
}
