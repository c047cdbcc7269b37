import java.util.ArrayList;
import java.util.List;
import java.util.Random;

/** Many runs of calls by chance (always the same ones), each answer looked at against the plain model. */
public final class ModelTest {
    private static final int RUNS = 400;
    private static final int CALLS = 512;

    private final Random chance;
    private final NoticeBoxes real = new NoticeBoxes();
    private final Model model = new Model();
    private final List<String> calls = new ArrayList<>();

    private ModelTest(long run) {
        chance = new Random(run);
    }

    public static void main(String[] args) {
        for (int run = 0; run < RUNS && Check.allWell(); run++) {
            new ModelTest(run).run(run);
        }
        Check.end();
    }

    private void run(int run) {
        for (int i = 0; i < CALLS && Check.allWell(); i++) {
            if (i < 30 && run % 4 != 0) {
                build();
            } else {
                int kind = chance.nextInt(10);
                if (kind < 6) {
                    ask();
                } else if (kind < 9) {
                    act();
                } else {
                    note();
                }
            }
        }
        if (!Check.allWell()) {
            System.out.println("run " + run + ": " + String.join("; ", calls));
        }
    }

    /** Mostly a number from 0 to n less 1, at times one at the edge or far beyond it. */
    private int upTo(int n) {
        switch (chance.nextInt(40)) {
            case 0: return -1;
            case 1: return n;
            case 2: return chance.nextBoolean() ? Integer.MIN_VALUE : Integer.MAX_VALUE;
            case 3: return chance.nextInt();
            default: return chance.nextInt(n);
        }
    }

    private int anyBroker() {
        return upTo(Math.max(1, model.told(0)));
    }

    private int anyClient() {
        return upTo(Math.max(1, model.told(1)));
    }

    private int anyWish() {
        return upTo(Math.max(1, model.told(2)));
    }

    private int[] neighbours() {
        int b = anyBroker();
        if (b > 0 && b < model.told(0) && chance.nextInt(10) > 0) {
            int above = model.brokerAt(b, 0);
            return chance.nextBoolean() ? new int[] {b, above} : new int[] {above, b};
        }
        return new int[] {b, anyBroker()};
    }

    private void build() {
        switch (chance.nextInt(4)) {
            case 0: call("broker", anyBroker()); break;
            case 1: call("client", anyBroker()); break;
            default: wishSomething(); break;
        }
    }

    private void wishSomething() {
        call("wish", anyClient(), upTo(4), upTo(10), upTo(4), upTo(10), upTo(4), upTo(10));
    }

    private void ask() {
        int[] pair = neighbours();
        switch (chance.nextInt(9)) {
            case 0: call("told", upTo(12)); break;
            case 1: call("brokerAt", anyBroker(), upTo(4)); break;
            case 2: call("clientAt", anyClient(), upTo(6)); break;
            case 3: call("log", anyClient(), upTo(12)); break;
            case 4: call("wishAt", anyWish(), upTo(9)); break;
            case 5: call("toldOn", pair[0], pair[1]); break;
            case 6: case 7: call("box", pair[0], pair[1], upTo(Math.max(1, model.toldOn(pair[0], pair[1]))), upTo(8)); break;
            default: call("would", anyBroker(), upTo(10), upTo(10), upTo(10), upTo(4)); break;
        }
    }

    private void act() {
        switch (chance.nextInt(20)) {
            case 0: call("broker", anyBroker()); break;
            case 1: call("client", anyBroker()); break;
            case 2: case 3: case 4: wishSomething(); break;
            case 5: call("drop", anyWish()); break;
            case 6: case 7: call("most", chance.nextBoolean() ? 1 + upTo(4) : 1 + upTo(9)); break;
            case 8: case 9: case 10: call("leave", anyClient()); break;
            case 11: case 12: call("come", anyClient(), anyBroker()); break;
            case 13: if (chance.nextInt(3) == 0) call("part"); break;
            case 14: case 15: call("drift", 1 + upTo(8)); break;
            case 16: call("undo", chance.nextInt(3) > 0 ? 1 + upTo(4) : 1 + upTo(16)); break;
            default: call("put", anyBroker(), upTo(10), upTo(10), upTo(10)); break;
        }
    }

    private void note() {
        switch (chance.nextInt(8)) {
            case 0: case 1: case 2: case 3:
                int c = anyClient();
                int had = model.clientAt(c, 2);
                call("write", c, chance.nextInt(4) == 0 ? chance.nextInt(20) : had);
                break;
            case 4: if (chance.nextInt(3) == 0) call("tear"); break;
            case 5: call("seed", chance.nextInt(4) == 0 ? upTo(10) : chance.nextInt() & Integer.MAX_VALUE); break;
            case 6: call("keep", upTo(2)); break;
            default: call("goBack", upTo(2)); break;
        }
    }

    private void call(String name, int... a) {
        StringBuilder text = new StringBuilder(name).append('(');
        for (int i = 0; i < a.length; i++) {
            text.append(i == 0 ? "" : ", ").append(a[i]);
        }
        String written = text.append(')').toString();
        calls.add(written);
        Check.due(written, answerOfReal(name, a), answerOfModel(name, a));
    }

    private int answerOfReal(String name, int[] a) {
        switch (name) {
            case "told": return real.told(a[0]);
            case "brokerAt": return real.brokerAt(a[0], a[1]);
            case "clientAt": return real.clientAt(a[0], a[1]);
            case "log": return real.log(a[0], a[1]);
            case "wishAt": return real.wishAt(a[0], a[1]);
            case "toldOn": return real.toldOn(a[0], a[1]);
            case "box": return real.box(a[0], a[1], a[2], a[3]);
            case "would": return real.would(a[0], a[1], a[2], a[3], a[4]);
            case "broker": return real.broker(a[0]);
            case "client": return real.client(a[0]);
            case "wish": return real.wish(a[0], a[1], a[2], a[3], a[4], a[5], a[6]);
            case "drop": return real.drop(a[0]);
            case "most": return real.most(a[0]);
            case "put": return real.put(a[0], a[1], a[2], a[3]);
            case "leave": return real.leave(a[0]);
            case "come": return real.come(a[0], a[1]);
            case "part": return real.part();
            case "drift": return real.drift(a[0]);
            case "undo": return real.undo(a[0]);
            case "write": return real.write(a[0], a[1]);
            case "tear": return real.tear();
            case "seed": return real.seed(a[0]);
            case "keep": return real.keep(a[0]);
            case "goBack": return real.goBack(a[0]);
            default: throw new IllegalArgumentException(name);
        }
    }

    private int answerOfModel(String name, int[] a) {
        switch (name) {
            case "told": return model.told(a[0]);
            case "brokerAt": return model.brokerAt(a[0], a[1]);
            case "clientAt": return model.clientAt(a[0], a[1]);
            case "log": return model.log(a[0], a[1]);
            case "wishAt": return model.wishAt(a[0], a[1]);
            case "toldOn": return model.toldOn(a[0], a[1]);
            case "box": return model.box(a[0], a[1], a[2], a[3]);
            case "would": return model.would(a[0], a[1], a[2], a[3], a[4]);
            case "broker": return model.broker(a[0]);
            case "client": return model.client(a[0]);
            case "wish": return model.wish(a[0], a[1], a[2], a[3], a[4], a[5], a[6]);
            case "drop": return model.drop(a[0]);
            case "most": return model.most(a[0]);
            case "put": return model.put(a[0], a[1], a[2], a[3]);
            case "leave": return model.leave(a[0]);
            case "come": return model.come(a[0], a[1]);
            case "part": return model.part();
            case "drift": return model.drift(a[0]);
            case "undo": return model.undo(a[0]);
            case "write": return model.write(a[0], a[1]);
            case "tear": return model.tear();
            case "seed": return model.seed(a[0]);
            case "keep": return model.keep(a[0]);
            case "goBack": return model.goBack(a[0]);
            default: throw new IllegalArgumentException(name);
        }
    }
}
