/** Counts the answers that are not due; each test ends by end(). */
public final class Check {
    private static int wrong = 0;
    private static int asked = 0;

    private Check() {
    }

    public static void due(String call, int got, int want) {
        asked++;
        if (got != want) {
            wrong++;
            System.out.println(call + " answered " + got + ", due is " + want);
        }
    }

    public static void holds(String what, boolean so) {
        asked++;
        if (!so) {
            wrong++;
            System.out.println("not so: " + what);
        }
    }

    public static boolean allWell() {
        return wrong == 0;
    }

    public static void end() {
        System.out.println(asked + " answers looked at, " + wrong + " not as due");
        if (wrong != 0) {
            System.exit(1);
        }
    }
}
