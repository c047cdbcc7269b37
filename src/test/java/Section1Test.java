/** The document's terms and its section 1, a run for each sentence that names an edge; the sentence is the title. */
public final class Section1Test {
    private static final String ELEVEN_WISHES = """
        wish(0, 0, 0, 0, 0, 0, 0) = 0; wish(0, 0, 0, 0, 0, 0, 0) = 1; wish(0, 0, 0, 0, 0, 0, 0) = 2
        wish(0, 0, 0, 0, 0, 0, 0) = 3; wish(0, 0, 0, 0, 0, 0, 0) = 4; wish(0, 0, 0, 0, 0, 0, 0) = 5
        wish(0, 0, 0, 0, 0, 0, 0) = 6; wish(0, 0, 0, 0, 0, 0, 0) = 7; wish(0, 0, 0, 0, 0, 0, 0) = 8
        wish(0, 0, 0, 0, 0, 0, 0) = 9; wish(0, 0, 0, 0, 0, 0, 0) = 10
        """;

    public static void main(String[] args) {
        numbers();
        sets();
        brokers();
        clients();
        notices();
        wishesAtMost();
        wishNumbers();
        kinds();
        fits();
        sizes();
        covers();
        order();
        Check.end();
    }

    private static void numbers() {
        Calls.run("What has a number has it from 0 on", """
            brokerAt(0, 0) = NONE; broker(0) = 1; client(0) = 0; client(0) = 1
            wish(0, 0, 0, 0, 0, 0, 0) = 0; wish(0, 0, 0, 0, 0, 0, 0) = 1
            put(0, 0, 0, 0) = 1; log(0, 0) = 0; put(0, 0, 0, 0) = 1; log(0, 0) = 1
            box(0, 1, 0, 6) = 1000; box(0, 1, 1, 6) = UNKNOWN
            write(0, 5) = 1; told(9) = 0; keep(0) = 1; keep(1) = 1; keep(2) = UNKNOWN
            """);
        Check.holds("REFUSALS: -1000000001 and on", NoticeBoxes.UNKNOWN == -1000000001
                && NoticeBoxes.OUTSIDE == NoticeBoxes.UNKNOWN - 1 && NoticeBoxes.NOT == NoticeBoxes.OUTSIDE - 1
                && NoticeBoxes.FULL == NoticeBoxes.NOT - 1 && NoticeBoxes.NONE == -1);
    }

    private static void sets() {
        Calls.run("A SET is a whole number, bit k for k: the empty ones", """
            brokerAt(0, 1) = 0; brokerAt(0, 2) = 0; brokerAt(0, 3) = 0; would(0, 0, 0, 0, 0) = 1
            would(0, 0, 0, 0, 1) = 0; would(0, 0, 0, 0, 2) = 0; client(0) = 0; clientAt(0, 5) = 0
            wish(0, 0, 0, 0, 0, 0, 0) = 0; wishAt(0, 8) = 0
            """);
        Calls.run("A SET: full of NEIGHBOURS and BROKERS", Setup.STAR_OF_SEVEN + """
            brokerAt(0, 1) = 126; client(1) = 0; client(2) = 1; client(3) = 2; client(4) = 3; client(5) = 4
            client(6) = 5
            wish(0, 0, 0, 0, 0, 0, 0) = 0; wish(1, 0, 0, 0, 0, 0, 0) = 1; wish(2, 0, 0, 0, 0, 0, 0) = 2
            wish(3, 0, 0, 0, 0, 0, 0) = 3; wish(4, 0, 0, 0, 0, 0, 0) = 4; wish(5, 0, 0, 0, 0, 0, 0) = 5
            would(0, 0, 0, 0, 0) = 127; would(0, 0, 0, 0, 1) = 63; would(6, 0, 0, 0, 0) = 127
            """);
        Calls.run("A SET: full of CLIENTS and WISHES", Setup.SIX_CLIENTS + ELEVEN_WISHES + """
            wish(0, 0, 0, 0, 0, 0, 0) = 11; brokerAt(0, 2) = 63; brokerAt(0, 3) = 4095; clientAt(0, 5) = 4095
            wishAt(0, 8) = 4094; wishAt(11, 8) = 2047; clientAt(5, 5) = 0
            """);
    }

    private static void brokers() {
        Calls.run("BROKERS 0 to B less 1 (B 1 .. 7; 1 at first)", """
            told(0) = 1; brokerAt(0, 0) = NONE; brokerAt(1, 0) = UNKNOWN
            """ + Setup.STAR_OF_SEVEN + """
            told(0) = 7; brokerAt(6, 0) = 0; brokerAt(7, 0) = UNKNOWN; broker(0) = FULL; told(0) = 7
            undo(1) = 5; told(0) = 6; brokerAt(6, 0) = UNKNOWN; broker(5) = 6; broker(5) = FULL
            """);
        Calls.run("each but BROKER 0 has one of lesser number ABOVE it; these two are NEIGHBOURS", """
            broker(1) = UNKNOWN; broker(0) = 1; broker(2) = UNKNOWN; broker(1) = 2; broker(0) = 3
            brokerAt(0, 0) = NONE; brokerAt(1, 0) = 0; brokerAt(2, 0) = 1; brokerAt(3, 0) = 0
            brokerAt(0, 1) = 10; brokerAt(1, 1) = 5; brokerAt(2, 1) = 2; brokerAt(3, 1) = 1
            toldOn(0, 1) = 0; toldOn(1, 0) = 0; toldOn(2, 1) = 0; toldOn(3, 0) = 0
            toldOn(2, 0) = UNKNOWN; toldOn(0, 2) = UNKNOWN; toldOn(1, 3) = UNKNOWN; toldOn(3, 2) = UNKNOWN
            """);
        Calls.run("BROKERS that are no NEIGHBOURS: one is none of its own", """
            toldOn(0, 0) = UNKNOWN; broker(0) = 1; toldOn(0, 0) = UNKNOWN; toldOn(1, 1) = UNKNOWN
            box(0, 0, 0, 0) = UNKNOWN; box(1, 1, 0, 0) = UNKNOWN
            """);
        Calls.run("BROKERS that are no NEIGHBOURS: NONE, above BROKER 0, is none", """
            brokerAt(0, 0) = NONE; toldOn(0, -1) = UNKNOWN; toldOn(-1, 0) = UNKNOWN
            box(0, -1, 0, 0) = UNKNOWN; box(-1, 0, 0, 0) = UNKNOWN
            """);
    }

    private static void clients() {
        Calls.run("CLIENTS 0 on (6 at most, none at first)", """
            told(1) = 0; clientAt(0, 0) = UNKNOWN
            """ + Setup.SIX_CLIENTS + """
            told(1) = 6; clientAt(5, 0) = 0; clientAt(6, 0) = UNKNOWN; client(0) = FULL; told(1) = 6
            part() = 5; clientAt(5, 0) = UNKNOWN; client(0) = 5; client(0) = FULL; undo(1) = 7; client(0) = 5
            """);
        Calls.run("each has a HOME, a BROKER, and is PRESENT or AWAY", """
            broker(0) = 1; client(1) = 0; clientAt(0, 0) = 1; clientAt(0, 1) = 1
            leave(0) = 1; clientAt(0, 0) = 1; clientAt(0, 1) = 0; come(0, 0) = 0; clientAt(0, 0) = 0; clientAt(0, 1) = 1
            """);
    }

    private static void notices() {
        Calls.run("A NOTICE says three things, x, y, z (0 .. 9 each)", """
            client(0) = 0; wish(0, 0, 0, 0, 0, 0, 0) = 0
            put(0, 0, 0, 0) = 1; put(0, 9, 9, 9) = 1; put(0, 9, 0, 0) = 1; put(0, 0, 9, 0) = 1; put(0, 0, 0, 9) = 1
            would(0, 9, 9, 9, 1) = 1; would(0, 0, 0, 0, 1) = 1; told(4) = 5
            """
            + Calls.beyond(0, 9, "put(0, ?, 0, 0) = OUTSIDE") + Calls.beyond(0, 9, "put(0, 0, ?, 0) = OUTSIDE")
            + Calls.beyond(0, 9, "put(0, 0, 0, ?) = OUTSIDE") + Calls.beyond(0, 9, "would(0, ?, 0, 0, 0) = OUTSIDE")
            + Calls.beyond(0, 9, "would(0, 0, ?, 0, 0) = OUTSIDE")
            + Calls.beyond(0, 9, "would(0, 0, 0, ?, 0) = OUTSIDE")
            + "told(4) = 5; clientAt(0, 2) = 5");
    }

    private static void wishesAtMost() {
        Calls.run("12 WISHES at most, of all together", "told(2) = 0; client(0) = 0; client(0) = 1\n" + ELEVEN_WISHES
                + """
            told(2) = 11; wishAt(11, 0) = UNKNOWN; wish(1, 0, 0, 0, 0, 0, 0) = 11; told(2) = 12; wishAt(11, 0) = 1
            wish(0, 0, 0, 0, 0, 0, 0) = FULL; wish(1, 0, 0, 0, 0, 0, 0) = FULL; told(2) = 12; wishAt(12, 0) = UNKNOWN
            drop(3) = 11; wish(1, 3, 4, 0, 0, 0, 0) = 11; wish(1, 0, 0, 0, 0, 0, 0) = FULL
            part() = 1; told(2) = 10; wish(0, 0, 0, 0, 0, 0, 0) = 10; wish(0, 0, 0, 0, 0, 0, 0) = 11
            wish(0, 0, 0, 0, 0, 0, 0) = FULL; undo(1) = 15; wish(0, 0, 0, 0, 0, 0, 0) = 11
            """);
    }

    private static void wishNumbers() {
        String four = """
            client(0) = 0; client(0) = 1; wish(0, 3, 1, 0, 0, 0, 0) = 0; wish(1, 3, 2, 0, 0, 0, 0) = 1
            wish(0, 3, 3, 0, 0, 0, 0) = 2; wish(1, 3, 4, 0, 0, 0, 0) = 3
            """;
        Calls.run("if one goes, later ones have one number less: the first goes", four + """
            drop(0) = 3; wishAt(0, 1) = 2; wishAt(1, 1) = 3; wishAt(2, 1) = 4; wishAt(3, 0) = UNKNOWN
            wishAt(0, 0) = 1; wishAt(1, 0) = 0; wishAt(2, 0) = 1; clientAt(0, 5) = 2; clientAt(1, 5) = 5
            """);
        Calls.run("if one goes, later ones have one number less: one between goes", four + """
            drop(2) = 3; wishAt(0, 1) = 1; wishAt(1, 1) = 2; wishAt(2, 1) = 4; wishAt(3, 0) = UNKNOWN
            clientAt(0, 5) = 1; clientAt(1, 5) = 6; wish(0, 3, 7, 0, 0, 0, 0) = 3; wishAt(3, 1) = 7
            """);
        Calls.run("if one goes, later ones have one number less: the last goes", four + """
            drop(3) = 3; wishAt(0, 1) = 1; wishAt(1, 1) = 2; wishAt(2, 1) = 3; wishAt(3, 0) = UNKNOWN
            drop(2) = 2; drop(1) = 1; drop(0) = 0; drop(0) = UNKNOWN; wish(1, 3, 8, 0, 0, 0, 0) = 0; wishAt(0, 1) = 8
            """);
    }

    /** 0 ANY: 0 to 9; 1 AT MOST: 0 to v; 2 AT LEAST: v to 9; 3 JUST: v to v, for each thing and each v. */
    private static void kinds() {
        for (int thing = 0; thing < 3; thing++) {
            for (int v = 0; v <= 9; v++) {
                lookAtKind(thing, 0, v, 0, 9);
                lookAtKind(thing, 1, v, 0, v);
                lookAtKind(thing, 2, v, v, 9);
                lookAtKind(thing, 3, v, v, v);
            }
        }
        for (int k = 1; k <= 6; k++) {
            int[] wish = new int[7];
            wish[k] = -7;
            String call = Calls.written("wish", wish).replace("-7", "?");
            int high = k % 2 == 1 ? 3 : 9;
            Calls.run("a KIND (0 to 3) and a v (0 .. 9)", "client(0) = 0\n" + Calls.beyond(0, high, call + " = OUTSIDE")
                    + "told(2) = 0; told(10) = 1\n" + call.replace("?", Integer.toString(high)) + " = 0\n"
                    + call.replace("?", "0") + " = 1");
        }
    }

    private static void lookAtKind(int thing, int kind, int v, int from, int to) {
        String title = "kind " + kind + " for thing " + thing + " of " + v;
        NoticeBoxes one = new NoticeBoxes();
        one.client(0);
        int[] wish = new int[7];
        wish[1 + 2 * thing] = kind;
        wish[2 + 2 * thing] = v;
        Check.due(title, Calls.answer(one, "wish", wish), 0);
        for (int t = 0; t < 3; t++) {
            Check.due(title + ": from " + t, one.wishAt(0, 1 + 2 * t), t == thing ? from : 0);
            Check.due(title + ": to " + t, one.wishAt(0, 2 + 2 * t), t == thing ? to : 9);
        }
        Check.due(title + ": size", one.wishAt(0, 7), 100 * (to - from + 1));
        for (int said = 0; said <= 9; said++) {
            int[] notice = {0, 4, 5, 6, 1};
            notice[1 + thing] = said;
            Check.due(title + " and " + said, Calls.answer(one, "would", notice), from <= said && said <= to ? 1 : 0);
        }
    }

    private static void fits() {
        Calls.run("A NOTICE FITS a BOX, if each thing is within its bounds", """
            client(0) = 0; wish(0, 1, 4, 2, 5, 3, 6) = 0
            put(0, 4, 5, 6) = 1; put(0, 0, 9, 6) = 1; put(0, 5, 5, 6) = 0; put(0, 4, 4, 6) = 0
            put(0, 4, 5, 5) = 0; put(0, 4, 5, 7) = 0; put(0, 9, 0, 0) = 0; clientAt(0, 2) = 2
            """);
    }

    private static void sizes() {
        Calls.run("SIZE of a BOX: how many NOTICES FIT it: from 1 to 1000", """
            client(0) = 0; wish(0, 3, 0, 3, 9, 3, 5) = 0; wishAt(0, 7) = 1; wish(0, 0, 0, 0, 9, 0, 5) = 1
            wishAt(1, 7) = 1000
            wish(0, 1, 0, 2, 9, 3, 3) = 2; wishAt(2, 7) = 1; wish(0, 1, 9, 2, 0, 0, 0) = 3; wishAt(3, 7) = 1000
            wish(0, 1, 1, 2, 7, 2, 5) = 4; wishAt(4, 7) = 30
            """);
    }

    private static void covers() {
        Calls.run("A BOX COVERS another one (perhaps a like one), if the bounds of that are within its own", """
            client(0) = 0; client(0) = 1
            wish(0, 1, 4, 2, 5, 3, 6) = 0; wish(1, 1, 4, 2, 5, 3, 6) = 1         # like ones
            wish(0, 3, 4, 3, 5, 3, 6) = 2; wish(0, 3, 0, 3, 9, 3, 6) = 3         # within, up to the bounds
            wish(0, 1, 5, 2, 5, 3, 6) = 4; wish(0, 3, 5, 2, 5, 3, 6) = 5         # one off: x to
            wish(0, 1, 4, 2, 4, 3, 6) = 6; wish(0, 1, 4, 3, 4, 3, 6) = 7         # y from
            wish(0, 1, 4, 2, 5, 3, 5) = 8; wish(0, 1, 4, 2, 5, 3, 7) = 9         # z
            wish(0, 1, 4, 2, 5, 1, 6) = 10; wish(0, 1, 4, 2, 5, 2, 6) = 11
            wishAt(0, 8) = 14; wishAt(1, 8) = 13; wishAt(2, 8) = 0; wishAt(3, 8) = 0; wishAt(4, 8) = 47
            wishAt(5, 8) = 0
            wishAt(6, 8) = 143; wishAt(7, 8) = 0; wishAt(8, 8) = 0; wishAt(9, 8) = 0; wishAt(10, 8) = 271
            wishAt(11, 8) = 527
            """);
    }

    /** Where the bounds ahead are alike, each one tells, whatever those behind it say. */
    private static void order() {
        inOrder("x from", "wish(0, 3, 3, 3, 4, 3, 4) = 0", "wish(0, 2, 2, 3, 5, 3, 5) = 1", 0, 2, 3);
        inOrder("x to", "wish(0, 1, 4, 3, 4, 3, 4) = 0", "wish(0, 1, 3, 3, 5, 3, 5) = 1", 1, 3, 4);
        inOrder("y from", "wish(0, 0, 0, 3, 3, 3, 4) = 0", "wish(0, 0, 0, 2, 2, 3, 5) = 1", 2, 2, 3);
        inOrder("y to", "wish(0, 0, 0, 1, 4, 3, 4) = 0", "wish(0, 0, 0, 1, 3, 3, 5) = 1", 3, 3, 4);
        // Of boxes with all else alike and one z bound alike too, one covers the other: z to never tells.
        inOrder("z from", "wish(0, 0, 0, 0, 0, 3, 3) = 0", "wish(0, 0, 0, 0, 0, 3, 2) = 1", 4, 2, 3);
    }

    private static void inOrder(String bound, String later, String first, int what, int least, int most) {
        Calls.run("the first unlike one tells: " + bound, "broker(0) = 1; client(1) = 0\n" + later + ";" + first
                + "\ntoldOn(1, 0) = 2; box(1, 0, 0, " + what + ") = " + least + "; box(1, 0, 1, " + what + ") = "
                + most);
    }
}
