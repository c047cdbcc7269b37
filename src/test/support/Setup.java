import java.math.BigInteger;

/** Beginnings of runs that several tests share, and what draws come to. */
public final class Setup {
    public static final String ONE_CLIENT = "client(0) = 0; wish(0, 0, 0, 0, 0, 0, 0) = 0\n";
    public static final String SIX_CLIENTS = """
        client(0) = 0; client(0) = 1; client(0) = 2; client(0) = 3; client(0) = 4; client(0) = 5
        """;
    public static final String CHAIN_OF_SEVEN = """
        broker(0) = 1; broker(1) = 2; broker(2) = 3; broker(3) = 4; broker(4) = 5; broker(5) = 6
        """;
    public static final String STAR_OF_SEVEN = """
        broker(0) = 1; broker(0) = 2; broker(0) = 3; broker(0) = 4; broker(0) = 5; broker(0) = 6
        """;

    private Setup() {
    }

    /** Of client 0, each of its had, 0. */
    public static String entries(int n) {
        StringBuilder text = new StringBuilder();
        for (int i = 1; i <= n; i++) {
            text.append("write(0, 0) = ").append(i).append('\n');
        }
        return text.toString();
    }

    /** THE SEED "becomes it times 1103515245 and 12345, left over by 2 to the 31", reckoned in numbers without end. */
    public static int seedAfter(int seed, int draws) {
        BigInteger value = BigInteger.valueOf(seed);
        for (int i = 0; i < draws; i++) {
            value = value.multiply(BigInteger.valueOf(1103515245)).add(BigInteger.valueOf(12345));
            value = value.mod(BigInteger.TWO.pow(31));
        }
        return value.intValueExact();
    }
}
