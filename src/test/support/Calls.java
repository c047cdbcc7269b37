import java.lang.reflect.InvocationTargetException;
import java.lang.reflect.Method;
import java.util.Arrays;
import java.util.regex.Matcher;
import java.util.regex.Pattern;

/** Calls by their names, and runs of calls written as text. */
public final class Calls {
    private static final Pattern CALL = Pattern.compile("(?:(\\d+) \\* )?(\\w+)\\(([^)]*)\\) = (\\S+)");
    /** What later calls of one object answer is free. */
    private static final int MOST_CALLS = 512;
    /** Numbers that a careless bound, a shift by 32, four bits or a sign may let through. */
    private static final int[] FAR = {
        Integer.MIN_VALUE, Integer.MIN_VALUE + 1, -1000000004, -1000000001, -65536, -256, -32, -16, -10, -2, -1,
        6, 7, 8, 9, 10, 11, 12, 13, 16, 17, 20, 32, 33, 64, 100, 256, 65536, 1000000001,
        Integer.MAX_VALUE - 1, Integer.MAX_VALUE,
    };

    private Calls() {
    }

    public static String written(String name, int... args) {
        String list = Arrays.toString(args);
        return name + "(" + list.substring(1, list.length() - 1) + ")";
    }

    public static int answer(Object target, String name, int... args) {
        Class<?>[] types = new Class<?>[args.length];
        Arrays.fill(types, int.class);
        Object[] boxed = Arrays.stream(args).boxed().toArray();
        try {
            Method method = target.getClass().getMethod(name, types);
            return (Integer) method.invoke(target, boxed);
        } catch (InvocationTargetException e) {
            throw new IllegalStateException(written(name, args) + " threw " + e.getCause(), e.getCause());
        } catch (ReflectiveOperationException e) {
            throw new IllegalStateException("no such call: " + written(name, args), e);
        }
    }

    /**
     * On a new object: calls with their due answers, by lines or semicolons; # begins a remark;
     * "3 * call = answer" makes the call three times.
     */
    public static void run(String title, String text) {
        NoticeBoxes target = new NoticeBoxes();
        int calls = 0;
        for (String line : text.split("\n")) {
            for (String one : line.replaceFirst("#.*", "").split(";")) {
                if (!one.isBlank()) {
                    calls += runOne(title, target, one.trim());
                }
            }
        }
        Check.holds(title + ": no more calls than an object is used for", calls <= MOST_CALLS);
    }

    /** Calls for all sorts of numbers outside of low to high, each put for the ? of the call. */
    public static String beyond(int low, int high, String call) {
        StringBuilder text = new StringBuilder();
        text.append(call.replace("?", Integer.toString(low - 1))).append('\n');
        text.append(call.replace("?", Integer.toString(high + 1))).append('\n');
        for (int far : FAR) {
            if (far < low || far > high) {
                text.append(call.replace("?", Integer.toString(far))).append('\n');
            }
        }
        return text.toString();
    }

    private static int runOne(String title, NoticeBoxes target, String text) {
        Matcher call = CALL.matcher(text);
        if (!call.matches()) {
            throw new IllegalArgumentException(title + ": can't read '" + text + "'");
        }
        int times = call.group(1) == null ? 1 : Integer.parseInt(call.group(1));
        String name = call.group(2);
        String list = call.group(3).trim();
        int[] args = list.isEmpty() ? new int[0]
                : Arrays.stream(list.split(",")).map(String::trim).mapToInt(Integer::parseInt).toArray();
        for (int i = 0; i < times; i++) {
            Check.due(title + ": " + written(name, args), answer(target, name, args), due(call.group(4)));
        }
        return times;
    }

    private static int due(String text) {
        switch (text) {
            case "NONE": return NoticeBoxes.NONE;
            case "UNKNOWN": return NoticeBoxes.UNKNOWN;
            case "OUTSIDE": return NoticeBoxes.OUTSIDE;
            case "NOT": return NoticeBoxes.NOT;
            case "FULL": return NoticeBoxes.FULL;
            default: return Integer.parseInt(text);
        }
    }
}
