import java.util.ArrayList;
import java.util.List;
import java.util.Random;

/** Many runs of calls by chance (always the same ones), each answer looked at against the plain model. */
public final class ModelTest {
    private static final int RUNS = 400;
    private static final int CALLS = 512;

    private final Random chance;
    private final NoticeBoxes real = new NoticeBoxes();
    private final Model model = new Model();
    private final List<String> calls = new ArrayList<>();

    private ModelTest(long run) {
        chance = new Random(run);
    }

    public static void main(String[] args) {
        for (int run = 0; run < RUNS && Check.allWell(); run++) {
            new ModelTest(run).run(run);
        }
        Check.end();
    }

    private void run(int run) {
        for (int i = 0; i < CALLS && Check.allWell(); i++) {
            if (i < 30 && run % 4 != 0) {
                build();
            } else {
                int kind = chance.nextInt(10);
                if (kind < 6) {
                    ask();
                } else if (kind < 9) {
                    act();
                } else {
                    note();
                }
            }
        }
        if (!Check.allWell()) {
            System.out.println("run " + run + ": " + String.join("; ", calls));
        }
    }

    /** Mostly a number from 0 to n less 1, at times one at the edge or far beyond it. */
    private int upTo(int n) {
        switch (chance.nextInt(40)) {
            case 0: return -1;
            case 1: return n;
            case 2: return chance.nextBoolean() ? Integer.MIN_VALUE : Integer.MAX_VALUE;
            case 3: return chance.nextInt();
            default: return chance.nextInt(n);
        }
    }

    private int anyBroker() {
        return upTo(Math.max(1, model.told(0)));
    }

    private int anyClient() {
        return upTo(Math.max(1, model.told(1)));
    }

    private int anyWish() {
        return upTo(Math.max(1, model.told(2)));
    }

    private int[] neighbours() {
        int b = anyBroker();
        if (b > 0 && b < model.told(0) && chance.nextInt(10) > 0) {
            int above = model.brokerAt(b, 0);
            return chance.nextBoolean() ? new int[] {b, above} : new int[] {above, b};
        }
        return new int[] {b, anyBroker()};
    }

    private void build() {
        switch (chance.nextInt(4)) {
            case 0: call("broker", anyBroker()); break;
            case 1: call("client", anyBroker()); break;
            default: wishSomething(); break;
        }
    }

    private void wishSomething() {
        call("wish", anyClient(), upTo(4), upTo(10), upTo(4), upTo(10), upTo(4), upTo(10));
    }

    private void ask() {
        int[] pair = neighbours();
        switch (chance.nextInt(9)) {
            case 0: call("told", upTo(12)); break;
            case 1: call("brokerAt", anyBroker(), upTo(4)); break;
            case 2: call("clientAt", anyClient(), upTo(6)); break;
            case 3: call("log", anyClient(), upTo(12)); break;
            case 4: call("wishAt", anyWish(), upTo(9)); break;
            case 5: call("toldOn", pair[0], pair[1]); break;
            case 6: case 7: call("box", pair[0], pair[1], upTo(Math.max(1, model.toldOn(pair[0], pair[1]))), upTo(8)); break;
            default: call("would", anyBroker(), upTo(10), upTo(10), upTo(10), upTo(4)); break;
        }
    }

    private void act() {
        switch (chance.nextInt(20)) {
            case 0: call("broker", anyBroker()); break;
            case 1: call("client", anyBroker()); break;
            case 2: case 3: case 4: wishSomething(); break;
            case 5: call("drop", anyWish()); break;
            case 6: case 7: call("most", chance.nextBoolean() ? 1 + upTo(4) : 1 + upTo(9)); break;
            case 8: case 9: case 10: call("leave", anyClient()); break;
            case 11: case 12: call("come", anyClient(), anyBroker()); break;
            case 13: if (chance.nextInt(3) == 0) call("part"); break;
            case 14: case 15: call("drift", 1 + upTo(8)); break;
            case 16: call("undo", chance.nextInt(3) > 0 ? 1 + upTo(4) : 1 + upTo(16)); break;
            default: call("put", anyBroker(), upTo(10), upTo(10), upTo(10)); break;
        }
    }

    private void note() {
        switch (chance.nextInt(8)) {
            case 0: case 1: case 2: case 3:
                int c = anyClient();
                int had = model.clientAt(c, 2);
                call("write", c, chance.nextInt(4) == 0 ? chance.nextInt(20) : had);
                break;
            case 4: if (chance.nextInt(3) == 0) call("tear"); break;
            case 5: call("seed", chance.nextInt(4) == 0 ? upTo(10) : chance.nextInt() & Integer.MAX_VALUE); break;
            case 6: call("keep", upTo(2)); break;
            default: call("goBack", upTo(2)); break;
        }
    }

    private void call(String name, int... args) {
        String written = Calls.written(name, args);
        calls.add(written);
        Check.due(written, Calls.answer(real, name, args), Calls.answer(model, name, args));
    }
}
