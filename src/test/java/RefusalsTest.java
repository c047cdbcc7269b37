import java.util.ArrayList;
import java.util.List;

/**
 * "REFUSALS, of several the first in this order", "What is refused changes nothing", "ASKED, nothing changes by it".
 * Two objects go the same way, and one of them is called once more: whatever comes then, both answer alike.
 */
public final class RefusalsTest {
    private static final int MOST_CALLS = 512;

    /** All is full; client 0 is away with eight kept, one lost; image 0 is kept, image 1 is not; four can be undone. */
    private static final String FULL_HOUSE = """
        broker(0); broker(0); broker(1); broker(1); broker(2); broker(5)
        client(3); client(4); client(6); client(0); client(2); client(3)
        wish(0, 1, 3, 0, 0, 0, 0); wish(1, 1, 5, 0, 0, 0, 0); wish(2, 2, 6, 1, 2, 0, 0); wish(3, 3, 9, 3, 9, 3, 9)
        wish(4, 0, 0, 2, 8, 0, 0); wish(5, 3, 2, 3, 2, 3, 2); wish(0, 3, 8, 0, 0, 3, 0); wish(1, 3, 7, 3, 7, 0, 0)
        wish(2, 0, 0, 0, 0, 3, 4); wish(3, 2, 8, 3, 1, 3, 1); wish(4, 3, 5, 0, 0, 1, 1); wish(5, 0, 0, 3, 3, 3, 3)
        most(3); seed(5); leave(0); put(0, 1, 1, 1); put(0, 2, 1, 1); drift(8); drift(8)
        put(0, 1, 0, 0); put(0, 1, 0, 1); put(0, 1, 0, 2); put(0, 1, 0, 3); put(0, 1, 0, 4); put(0, 1, 0, 5)
        write(0, 0); write(1, 1); write(5, 0); write(0, 0); write(0, 0); write(0, 0); write(0, 0); write(0, 0)
        write(0, 0); write(0, 0); write(0, 0); write(0, 0); write(0, 0); write(0, 0); write(0, 0); write(0, 0)
        write(0, 0); write(0, 0); write(0, 0); write(0, 0)
        keep(0); put(6, 1, 9, 4); leave(2); drift(2)
        """;
    private static final String NEW = "";
    /** What may come behind the call: hidden things, as an image or what can be undone, are seen by these. */
    private static final String[] ENDINGS = {
        "", "undo(1)", "undo(4)", "goBack(0)", "goBack(1)", "drift(1)", "come(0, 5)", "part()", "drop(0)",
        "keep(1); drop(3); goBack(1)", "tear()", "most(2)",
    };

    private final NoticeBoxes object = new NoticeBoxes();
    private final List<Integer> answers = new ArrayList<>();
    private int calls;

    public static void main(String[] args) {
        lookAtHouse();
        unknownFirst();
        outsideNext();
        notAndFull();
        asked();
        Check.end();
    }

    private static void lookAtHouse() {
        Calls.run("the full house is as told above", due(FULL_HOUSE) + """
            told(0) = 7; told(1) = 6; told(2) = 12; told(8) = 20; told(10) = 4; clientAt(0, 1) = 0; clientAt(0, 3) = 8
            """);
    }

    /** Each call of the text with the answer that it has in a new object: only what follows is looked at. */
    private static String due(String text) {
        NoticeBoxes one = new NoticeBoxes();
        StringBuilder all = new StringBuilder();
        for (String call : parts(text)) {
            all.append(call).append(" = ").append(answer(one, call)).append('\n');
        }
        return all.toString();
    }

    private static List<String> parts(String text) {
        List<String> found = new ArrayList<>();
        for (String part : text.split("[;\n]")) {
            if (!part.isBlank()) {
                found.add(part.trim());
            }
        }
        return found;
    }

    private static int answer(NoticeBoxes one, String call) {
        String list = call.substring(call.indexOf('(') + 1, call.indexOf(')'));
        String[] texts = list.isBlank() ? new String[0] : list.split(",");
        int[] args = new int[texts.length];
        for (int i = 0; i < args.length; i++) {
            args[i] = Integer.parseInt(texts[i].trim());
        }
        return Calls.answer(one, call.substring(0, call.indexOf('(')), args);
    }

    /** UNKNOWN, whatever else is wrong. */
    private static void unknownFirst() {
        refused(FULL_HOUSE, NoticeBoxes.UNKNOWN, """
            brokerAt(7, 0); brokerAt(-1, 4); brokerAt(7, -1); clientAt(6, 0); clientAt(-1, 6); clientAt(6, -1)
            log(6, 0); log(-1, 12); log(6, -1); wishAt(12, 0); wishAt(-1, 9); wishAt(12, -1); toldOn(7, 0); toldOn(0, 7)
            toldOn(1, 2); toldOn(0, 0); toldOn(-1, 0); toldOn(0, -1); box(7, 0, 0, 0); box(0, 7, 0, 0); box(1, 2, 0, 0)
            box(1, 2, 0, 8); box(1, 2, 99, 8); box(1, 0, 3, 0); box(1, 0, 3, 8); box(1, 0, -1, 0); box(1, 0, -1, -1)
            would(7, 0, 0, 0, 0); would(-1, 10, 0, 0, 0); would(7, 0, -1, 0, 0); would(7, 0, 0, 10, 0)
            would(7, 0, 0, 0, 4)
            broker(7); broker(-1); client(7); client(-1)
            wish(6, 0, 0, 0, 0, 0, 0); wish(-1, 4, 0, 0, 0, 0, 0); wish(6, 0, 10, 0, 0, 0, 0)
            wish(6, 0, 0, 0, 0, 0, -1)
            drop(12); drop(-1); put(7, 0, 0, 0); put(-1, 10, 0, 0); put(7, 0, -1, 0); put(7, 0, 0, 10)
            leave(6); leave(-1); come(6, 0); come(-1, 0); come(0, 7); come(0, -1); come(1, 7); come(1, -1); come(6, 7)
            write(6, 0); write(-1, 0); keep(2); keep(-1); goBack(2); goBack(-1)
            """);
        refused(NEW, NoticeBoxes.UNKNOWN, """
            brokerAt(1, 0); clientAt(0, 0); log(0, 0); log(0, 12); wishAt(0, 0); toldOn(0, 0); box(0, 0, 0, 0)
            would(1, 0, 0, 0, 0); broker(1); client(1); wish(0, 0, 0, 0, 0, 0, 0); wish(0, 4, 0, 0, 0, 0, 0); drop(0)
            put(1, 0, 0, 0); leave(0); come(0, 0); write(0, 0); keep(2); goBack(2)
            """);
    }

    /** OUTSIDE, where all that is named is there, ahead of NOT and FULL. */
    private static void outsideNext() {
        refused(FULL_HOUSE, NoticeBoxes.OUTSIDE, """
            told(12); told(-1); brokerAt(6, 4); brokerAt(0, -1); clientAt(5, 6); clientAt(0, -1); log(5, 12); log(0, -1)
            wishAt(11, 9); wishAt(0, -1); box(1, 0, 0, 8); box(1, 0, 2, -1)
            would(0, 10, 0, 0, 0); would(0, 0, -1, 0, 0); would(0, 0, 0, 10, 0); would(0, 0, 0, 0, 4)
            would(0, 0, 0, 0, -1)
            wish(0, 4, 0, 0, 0, 0, 0); wish(0, 0, 10, 0, 0, 0, 0); wish(0, 0, 0, -1, 0, 0, 0)
            wish(0, 0, 0, 0, -1, 0, 0)
            wish(5, 0, 0, 0, 0, 4, 0); wish(5, 0, 0, 0, 0, 0, 10); most(0); most(10); most(-1)
            put(0, 10, 0, 0); put(0, -1, 0, 0); put(6, 0, 10, 0); put(6, 0, 0, -1); drift(0); drift(9); drift(-1)
            undo(0); undo(17); undo(-1); seed(-1); seed(-2147483648)
            """);
        refused(NEW, NoticeBoxes.OUTSIDE, """
            told(12); brokerAt(0, 4); would(0, 10, 0, 0, 0); would(0, 0, 0, 0, 4); most(0); most(10); put(0, 0, 0, 10)
            drift(0); drift(9); undo(0); undo(17); undo(-1); seed(-1)
            """);
    }

    private static void notAndFull() {
        refused(FULL_HOUSE, NoticeBoxes.NOT, """
            leave(0); leave(2); come(1, 0); come(1, 4); undo(5); undo(16); goBack(1)
            """);
        refused(NEW, NoticeBoxes.NOT, "part(); undo(1); undo(16); goBack(0); goBack(1)");
        refused(FULL_HOUSE, NoticeBoxes.FULL, "broker(0); broker(6); client(0); client(6); wish(0, 0, 0, 0, 0, 0, 0)"
                + "; wish(5, 3, 9, 3, 9, 3, 9); write(0, 0); write(5, 7)");
    }

    private static void refused(String house, int due, String callsRefused) {
        for (String call : parts(callsRefused)) {
            NoticeBoxes one = new RefusalsTest().after(house).object;
            Check.due("refused: " + call, answer(one, call), due);
            changesNothing(house, call);
        }
    }

    private static void asked() {
        for (String house : new String[] {FULL_HOUSE, NEW}) {
            for (int what = 0; what < 12; what++) {
                changesNothing(house, "told(" + what + ")");
            }
            for (int what = 0; what < 4; what++) {
                changesNothing(house, "brokerAt(0, " + what + ")");
                changesNothing(house, "would(0, 1, 9, 1, " + what + ")");
            }
        }
        for (int what = 0; what < 9; what++) {
            changesNothing(FULL_HOUSE, "wishAt(3, " + what + ")");
        }
        for (int what = 0; what < 8; what++) {
            changesNothing(FULL_HOUSE, "box(1, 0, 0, " + what + ")");
        }
        for (int what = 0; what < 6; what++) {
            changesNothing(FULL_HOUSE, "clientAt(0, " + what + ")");
        }
        for (String call : parts("log(1, 0); log(1, 11); toldOn(1, 0); toldOn(5, 6); would(6, 0, 0, 4, 1)")) {
            changesNothing(FULL_HOUSE, call);
        }
    }

    private static void changesNothing(String house, String call) {
        for (String ending : ENDINGS) {
            RefusalsTest with = new RefusalsTest().after(house).after(call);
            RefusalsTest without = new RefusalsTest().after(house);
            with.answers.clear();
            without.answers.clear();
            with.after(ending).lookAround();
            without.after(ending).lookAround();
            Check.holds(call + " changes nothing, seen behind '" + ending + "'", with.answers.equals(without.answers));
            Check.holds("no more calls than an object is used for: " + with.calls, with.calls <= MOST_CALLS);
        }
    }

    private RefusalsTest after(String text) {
        for (String call : parts(text)) {
            call(call);
        }
        return this;
    }

    private void call(String call) {
        calls++;
        answers.add(answer(object, call));
    }

    private void lookAround() {
        each("told(", 12);
        for (int b = 0; b < 7; b++) {
            each("brokerAt(" + b + ", ", 4);
        }
        for (int c = 0; c < 6; c++) {
            each("clientAt(" + c + ", ", 6);
            each("log(" + c + ", ", 12);
        }
        for (int w = 0; w < 12; w++) {
            each("wishAt(" + w + ", ", 9);
        }
        for (int b = 1; b < 7; b++) {
            int above = object.brokerAt(b, 0);
            calls++;
            lookAtTelling(b + ", " + above);
            lookAtTelling(above + ", " + b);
        }
    }

    private void lookAtTelling(String link) {
        call("toldOn(" + link + ")");
        for (int i = 0; i < 3; i++) {
            call("box(" + link + ", " + i + ", 0)");
            call("box(" + link + ", " + i + ", 6)");
        }
    }

    private void each(String beginning, int n) {
        for (int i = 0; i < n; i++) {
            call(beginning + i + ")");
        }
    }
}
