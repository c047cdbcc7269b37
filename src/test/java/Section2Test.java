/** The document's section 2, a run for each sentence that names an edge; the sentence is the title. */
public final class Section2Test {
    private static final String TWO_BROKERS = "broker(0) = 1; client(1) = 0\n";

    public static void main(String[] args) {
        nothingWished();
        whatIsTold();
        likeAndCovered();
        upToMost();
        manyJoined();
        joined();
        waste();
        likeWaste();
        afterEachDeed();
        Check.end();
    }

    private static void nothingWished() {
        Calls.run("TOLD ON: no WISHES, no BOXES", """
            broker(0) = 1; broker(1) = 2; client(0) = 0; client(2) = 1
            toldOn(0, 1) = 0; toldOn(1, 0) = 0; toldOn(1, 2) = 0; toldOn(2, 1) = 0; told(5) = 0
            box(0, 1, 0, 0) = UNKNOWN; most(1) = 9; toldOn(0, 1) = 0; told(5) = 0
            """);
        Calls.run("TOLD ON: one BROKER alone has nobody to tell", """
            client(0) = 0; wish(0, 0, 0, 0, 0, 0, 0) = 0; told(5) = 0; broker(0) = 1; told(5) = 1; undo(1) = 2
            told(5) = 0
            """);
    }

    private static void whatIsTold() {
        Calls.run("all that is TOLD ON to b by its other NEIGHBOURS: not back to the one that told it", """
            broker(0) = 1; broker(1) = 2; client(0) = 0; wish(0, 3, 4, 0, 0, 0, 0) = 0
            toldOn(0, 1) = 1; toldOn(1, 2) = 1; toldOn(1, 0) = 0; toldOn(2, 1) = 0; told(5) = 2; box(1, 2, 0, 0) = 4
            """);
        Calls.run("all that is TOLD ON to b by its other NEIGHBOURS: by each of them", """
            broker(0) = 1; broker(0) = 2; broker(0) = 3; client(1) = 0; client(2) = 1; client(3) = 2; client(0) = 3
            wish(0, 3, 1, 0, 0, 0, 0) = 0; wish(1, 3, 2, 0, 0, 0, 0) = 1; wish(2, 3, 3, 0, 0, 0, 0) = 2
            wish(3, 3, 0, 0, 0, 0, 0) = 3
            toldOn(0, 1) = 3; box(0, 1, 0, 0) = 0; box(0, 1, 1, 0) = 2; box(0, 1, 2, 0) = 3
            toldOn(0, 2) = 3; box(0, 2, 1, 0) = 1; toldOn(0, 3) = 3; box(0, 3, 2, 0) = 2; toldOn(1, 0) = 1; told(5) = 12
            """);
        Calls.run("through all of seven BROKERS, from the first to the last and back", Setup.CHAIN_OF_SEVEN + """
            client(6) = 0; client(0) = 1; wish(0, 3, 6, 0, 0, 0, 0) = 0; wish(1, 3, 1, 0, 0, 0, 0) = 1
            toldOn(1, 0) = 1; box(1, 0, 0, 0) = 6; toldOn(5, 6) = 1; box(5, 6, 0, 0) = 1; told(5) = 12
            """);
        Calls.run("CLIENTS whose HOME is b: AWAY or not", TWO_BROKERS + """
            wish(0, 0, 0, 0, 0, 0, 0) = 0; leave(0) = 1; toldOn(1, 0) = 1; wish(0, 3, 1, 0, 0, 0, 0) = 1; drop(0) = 1
            toldOn(1, 0) = 1; box(1, 0, 0, 6) = 100; come(0, 0) = 0; toldOn(1, 0) = 0; toldOn(0, 1) = 1
            """);
    }

    private static void likeAndCovered() {
        Calls.run("of like ones one: of one CLIENT, of two, by another BROKER", """
            broker(0) = 1; broker(1) = 2; client(1) = 0; client(1) = 1; client(2) = 2
            wish(0, 3, 4, 1, 4, 2, 4) = 0; wish(0, 3, 4, 1, 4, 2, 4) = 1; toldOn(1, 0) = 1; toldOn(1, 2) = 1
            wish(1, 3, 4, 1, 4, 2, 4) = 2; toldOn(1, 0) = 1; wish(2, 3, 4, 1, 4, 2, 4) = 3; toldOn(1, 0) = 1
            toldOn(2, 1) = 1; box(1, 0, 0, 6) = 30; box(1, 0, 1, 6) = UNKNOWN; told(5) = 3
            drop(0) = 3; drop(0) = 2; toldOn(1, 0) = 1; drop(0) = 1; toldOn(1, 0) = 1; toldOn(1, 2) = 0
            """);
        Calls.run("those that another one COVERS are left out: whichever came first", TWO_BROKERS + """
            wish(0, 1, 4, 0, 0, 0, 0) = 0; wish(0, 1, 5, 0, 0, 0, 0) = 1; toldOn(1, 0) = 1; box(1, 0, 0, 1) = 5
            wish(0, 1, 3, 0, 0, 0, 0) = 2; toldOn(1, 0) = 1; box(1, 0, 0, 1) = 5
            drop(1) = 2; toldOn(1, 0) = 1; box(1, 0, 0, 1) = 4        # what was left out is told again
            """);
        Calls.run("those that another one COVERS are left out: all at once", TWO_BROKERS + """
            wish(0, 3, 1, 0, 0, 0, 0) = 0; wish(0, 3, 2, 0, 0, 0, 0) = 1; wish(0, 0, 0, 3, 5, 0, 0) = 2
            toldOn(1, 0) = 3
            wish(0, 0, 0, 0, 0, 0, 0) = 3; toldOn(1, 0) = 1; box(1, 0, 0, 6) = 1000; drop(3) = 3; toldOn(1, 0) = 3
            """);
        Calls.run("those that another one COVERS are left out, ahead of any joining", TWO_BROKERS + """
            most(2) = 9; wish(0, 3, 0, 0, 0, 0, 0) = 0; wish(0, 3, 0, 3, 0, 0, 0) = 1; wish(0, 3, 0, 3, 0, 3, 0) = 2
            wish(0, 3, 9, 3, 9, 3, 9) = 3; toldOn(1, 0) = 2; box(1, 0, 0, 6) = 100; box(1, 0, 1, 6) = 1
            """);
    }

    /** "as long as there are more than MOST (1 .. 9; 9 at first)": as many as MOST stay, one more makes a pair. */
    private static void upToMost() {
        for (int n = 1; n <= 9; n++) {
            StringBuilder text = new StringBuilder(TWO_BROKERS);
            for (int i = 0; i < n; i++) {
                text.append(Calls.written("wish", 0, 3, i, 3, i, 3, i)).append(" = ").append(i).append('\n');
            }
            text.append("toldOn(1, 0) = ").append(n).append("; most(").append(n).append(") = 9\n");
            text.append("toldOn(1, 0) = ").append(n);
            for (int i = 0; i < n; i++) {
                text.append("; box(1, 0, ").append(i).append(", 6) = 1; box(1, 0, ").append(i).append(", 7) = 1");
            }
            text.append("\nwish(0, 3, 9, 3, 9, 3, 9) = ").append(n).append("; toldOn(1, 0) = ").append(n);
            text.append("; box(1, 0, ").append(n).append(", 0) = UNKNOWN; box(1, 0, 0, 7) = 0");
            Calls.run("more than MOST: " + n, text.toString());
        }
        Calls.run("MOST, 9 at first", TWO_BROKERS + """
            told(3) = 9; wish(0, 3, 0, 3, 0, 3, 0) = 0; wish(0, 3, 0, 3, 0, 3, 1) = 1; wish(0, 3, 0, 3, 0, 3, 2) = 2
            wish(0, 3, 0, 3, 0, 3, 3) = 3; wish(0, 3, 0, 3, 0, 3, 4) = 4; wish(0, 3, 0, 3, 0, 3, 5) = 5
            wish(0, 3, 0, 3, 0, 3, 6) = 6; wish(0, 3, 0, 3, 0, 3, 7) = 7; wish(0, 3, 0, 3, 0, 3, 8) = 8
            toldOn(1, 0) = 9; box(1, 0, 0, 6) = 1; wish(0, 3, 0, 3, 0, 3, 9) = 9
            toldOn(1, 0) = 9; box(1, 0, 0, 6) = 2; box(1, 0, 8, 6) = 1; box(1, 0, 9, 6) = UNKNOWN
            """);
    }

    private static void manyJoined() {
        String twelve = TWO_BROKERS + """
            wish(0, 3, 5, 3, 5, 3, 6) = 0; wish(0, 3, 5, 3, 5, 3, 5) = 1
            wish(0, 3, 0, 3, 0, 3, 9) = 2; wish(0, 3, 0, 3, 0, 3, 8) = 3; wish(0, 3, 0, 3, 0, 3, 7) = 4
            wish(0, 3, 0, 3, 0, 3, 6) = 5; wish(0, 3, 0, 3, 0, 3, 5) = 6; wish(0, 3, 0, 3, 0, 3, 4) = 7
            wish(0, 3, 0, 3, 0, 3, 3) = 8; wish(0, 3, 0, 3, 0, 3, 2) = 9; wish(0, 3, 0, 3, 0, 3, 1) = 10
            wish(0, 3, 0, 3, 0, 3, 0) = 11
            """;
        Calls.run("as long as there are more than MOST: twelve at nine", twelve + """
            toldOn(1, 0) = 9; box(1, 0, 0, 6) = 4; box(1, 0, 0, 5) = 3; box(1, 0, 1, 4) = 4; box(1, 0, 6, 4) = 9
            box(1, 0, 7, 0) = 5; box(1, 0, 7, 6) = 1; box(1, 0, 8, 4) = 6
            """);
        Calls.run("as long as there are more than MOST: twelve at one", twelve + """
            most(1) = 9; toldOn(1, 0) = 1; box(1, 0, 0, 0) = 0; box(1, 0, 0, 1) = 5; box(1, 0, 0, 2) = 0
            box(1, 0, 0, 3) = 5; box(1, 0, 0, 4) = 0; box(1, 0, 0, 5) = 9; box(1, 0, 0, 6) = 360; box(1, 0, 0, 7) = 0
            most(2) = 1; toldOn(1, 0) = 2; box(1, 0, 0, 6) = 10; box(1, 0, 1, 6) = 2
            most(3) = 2; toldOn(1, 0) = 3; box(1, 0, 0, 6) = 10; box(1, 0, 1, 6) = 1; box(1, 0, 2, 6) = 1
            """);
        Calls.run("a JOINED one is joined again, in its place in order", TWO_BROKERS + """
            most(2) = 9; wish(0, 3, 0, 3, 0, 3, 6) = 0; wish(0, 3, 0, 3, 0, 3, 4) = 1; wish(0, 3, 0, 3, 0, 3, 2) = 2
            toldOn(1, 0) = 2; box(1, 0, 0, 4) = 2; box(1, 0, 0, 5) = 4; box(1, 0, 1, 4) = 6
            wish(0, 3, 0, 3, 0, 3, 0) = 3; toldOn(1, 0) = 2; box(1, 0, 0, 4) = 0; box(1, 0, 0, 5) = 4
            box(1, 0, 1, 4) = 6
            """);
        Calls.run("MOST is counted for each telling: what was JOINED there is told on from here", """
            broker(0) = 1; broker(1) = 2; client(2) = 0; client(1) = 1; most(2) = 9
            wish(0, 3, 0, 3, 0, 3, 0) = 0; wish(0, 3, 0, 3, 0, 3, 1) = 1; wish(0, 3, 9, 3, 9, 3, 9) = 2
            wish(1, 3, 9, 3, 9, 3, 8) = 3
            toldOn(2, 1) = 2; box(2, 1, 0, 6) = 2; box(2, 1, 1, 6) = 1; toldOn(1, 2) = 1
            toldOn(1, 0) = 2; box(1, 0, 0, 6) = 2; box(1, 0, 1, 6) = 2; box(1, 0, 1, 4) = 8; told(5) = 5
            """);
    }

    private static void joined() {
        Calls.run("the least BOX that COVERS both comes", TWO_BROKERS + """
            most(1) = 9; wish(0, 3, 7, 3, 2, 3, 5) = 0; wish(0, 3, 3, 3, 4, 3, 5) = 1; toldOn(1, 0) = 1
            box(1, 0, 0, 0) = 3; box(1, 0, 0, 1) = 7; box(1, 0, 0, 2) = 2; box(1, 0, 0, 3) = 4; box(1, 0, 0, 4) = 5
            box(1, 0, 0, 5) = 5; box(1, 0, 0, 6) = 15; box(1, 0, 0, 7) = 0
            """);
        // The first and the second make all notices, waste 54; the third makes 80 and 170 with them.
        Calls.run("all that it COVERS go: it may leave fewer than MOST", TWO_BROKERS + """
            wish(0, 1, 8, 1, 8, 1, 8) = 0; wish(0, 2, 1, 2, 1, 2, 1) = 1; wish(0, 3, 0, 3, 9, 3, 0) = 2
            toldOn(1, 0) = 3
            most(3) = 9; toldOn(1, 0) = 3; most(2) = 3; toldOn(1, 0) = 1; box(1, 0, 0, 6) = 1000
            """);
        Calls.run("all that it COVERS go: what it does not cover stays", TWO_BROKERS + """
            most(2) = 9; wish(0, 3, 4, 3, 4, 3, 0) = 0; wish(0, 3, 4, 3, 4, 3, 3) = 1; wish(0, 3, 4, 3, 5, 3, 1) = 2
            toldOn(1, 0) = 2; box(1, 0, 0, 3) = 4; box(1, 0, 0, 4) = 0; box(1, 0, 0, 5) = 3
            box(1, 0, 1, 2) = 5; box(1, 0, 1, 4) = 1; box(1, 0, 1, 6) = 1
            """);
        Calls.run("a JOINED one is the BOX of a WISH, too, by chance", TWO_BROKERS + """
            most(1) = 9; wish(0, 3, 0, 0, 0, 0, 0) = 0; wish(0, 3, 1, 0, 0, 0, 0) = 1; toldOn(1, 0) = 1
            box(1, 0, 0, 1) = 1; box(1, 0, 0, 7) = 0; client(0) = 1; wish(1, 1, 1, 0, 0, 0, 0) = 2; box(1, 0, 0, 7) = 1
            """);
    }

    private static void waste() {
        Calls.run("WASTE is least: none at all", TWO_BROKERS + """
            most(2) = 9; wish(0, 3, 0, 3, 0, 3, 0) = 0; wish(0, 3, 0, 3, 0, 3, 2) = 1; wish(0, 3, 0, 3, 0, 3, 3) = 2
            toldOn(1, 0) = 2; box(1, 0, 0, 6) = 1; box(1, 0, 1, 4) = 2; box(1, 0, 1, 5) = 3
            """);
        Calls.run("WASTE is least: not the least JOINED one", TWO_BROKERS + """
            most(3) = 9; wish(0, 3, 0, 0, 0, 0, 0) = 0; wish(0, 3, 1, 0, 0, 0, 0) = 1
            wish(0, 3, 9, 3, 9, 3, 0) = 2; wish(0, 3, 9, 3, 9, 3, 2) = 3
            toldOn(1, 0) = 3; box(1, 0, 0, 6) = 200; box(1, 0, 1, 6) = 1; box(1, 0, 2, 6) = 1
            """);
        // The first two have 360 in common: 1000 less 840 is 160; the others waste 10.
        Calls.run("less how many NOTICES FIT one of both, or both: those are counted once", TWO_BROKERS + """
            most(3) = 9; wish(0, 1, 5, 0, 0, 0, 0) = 0; wish(0, 0, 0, 1, 5, 0, 0) = 1
            wish(0, 3, 9, 3, 9, 0, 0) = 2; wish(0, 3, 9, 3, 7, 0, 0) = 3
            toldOn(1, 0) = 3; box(1, 0, 0, 6) = 600; box(1, 0, 1, 6) = 600; box(1, 0, 2, 6) = 30
            """);
        // 900 and 900 have 810 in common: 1000 less 990 is 10; the last two waste 8, and 99 with them.
        Calls.run("less how many NOTICES FIT one of both, or both: a great part in common", TWO_BROKERS + """
            most(3) = 9; wish(0, 1, 8, 0, 0, 0, 0) = 0; wish(0, 0, 0, 1, 8, 0, 0) = 1
            wish(0, 3, 9, 3, 9, 3, 0) = 2; wish(0, 3, 9, 3, 9, 3, 9) = 3
            toldOn(1, 0) = 3; box(1, 0, 0, 6) = 900; box(1, 0, 2, 6) = 10
            drop(2) = 3; most(2) = 3; toldOn(1, 0) = 1; box(1, 0, 0, 6) = 1000
            """);
        // The third box has a notice of the gap between the first two:
        // their waste is 3 all the same, that of the last two 2.
        Calls.run("less how many NOTICES FIT one of both: other BOXES don't count", TWO_BROKERS + """
            most(4) = 9; wish(0, 3, 0, 3, 0, 3, 0) = 0; wish(0, 3, 0, 3, 4, 3, 0) = 1; wish(0, 0, 0, 3, 2, 0, 0) = 2
            wish(0, 3, 9, 3, 9, 3, 0) = 3; wish(0, 3, 9, 3, 9, 3, 3) = 4
            toldOn(1, 0) = 4; box(1, 0, 0, 6) = 1; box(1, 0, 1, 6) = 1; box(1, 0, 2, 6) = 100; box(1, 0, 3, 6) = 4
            """);
    }

    private static void likeWaste() {
        Calls.run("of such pairs the one whose first BOX is the first in order", TWO_BROKERS + """
            most(3) = 9; wish(0, 3, 0, 3, 5, 3, 2) = 0; wish(0, 3, 0, 3, 5, 3, 0) = 1
            wish(0, 3, 0, 3, 0, 3, 2) = 2; wish(0, 3, 0, 3, 0, 3, 0) = 3
            toldOn(1, 0) = 3; box(1, 0, 0, 6) = 3; box(1, 0, 1, 2) = 5; box(1, 0, 1, 6) = 1; box(1, 0, 2, 6) = 1
            """);
        Calls.run("then whose second is", TWO_BROKERS + """
            most(2) = 9; wish(0, 3, 0, 3, 2, 3, 0) = 0; wish(0, 3, 0, 3, 0, 3, 0) = 1; wish(0, 3, 0, 3, 0, 3, 2) = 2
            toldOn(1, 0) = 2; box(1, 0, 0, 5) = 2; box(1, 0, 0, 6) = 3; box(1, 0, 1, 2) = 2; box(1, 0, 1, 6) = 1
            """);
        Calls.run("a later pair, if by it less is wasted", TWO_BROKERS + """
            most(3) = 9; wish(0, 3, 0, 3, 0, 3, 0) = 0; wish(0, 3, 0, 3, 0, 3, 3) = 1
            wish(0, 3, 0, 3, 5, 3, 0) = 2; wish(0, 3, 0, 3, 5, 3, 2) = 3
            toldOn(1, 0) = 3; box(1, 0, 0, 6) = 1; box(1, 0, 1, 6) = 1; box(1, 0, 2, 2) = 5; box(1, 0, 2, 6) = 3
            """);
    }

    /** It was asked ahead of the deed, so that an answer of then would be seen. */
    private static void afterEachDeed() {
        String asked = TWO_BROKERS + """
            wish(0, 3, 4, 0, 0, 0, 0) = 0; wish(0, 3, 6, 0, 0, 0, 0) = 1; told(5) = 2; toldOn(1, 0) = 2
            """;
        Calls.run("TOLD ON is what is so behind broker()", asked
                + "broker(1) = 2; toldOn(1, 2) = 2; told(5) = 4; broker(0) = 3; toldOn(0, 3) = 2; told(5) = 6");
        Calls.run("TOLD ON is what is so behind client()", asked + "client(0) = 1; told(5) = 2; toldOn(0, 1) = 0");
        Calls.run("TOLD ON is what is so behind wish()", asked
                + "wish(0, 3, 8, 0, 0, 0, 0) = 2; told(5) = 3; box(1, 0, 2, 0) = 8");
        Calls.run("TOLD ON is what is so behind drop()", asked
                + "drop(0) = 1; told(5) = 1; box(1, 0, 0, 0) = 6; box(1, 0, 1, 0) = UNKNOWN");
        Calls.run("TOLD ON is what is so behind most()", asked
                + "most(1) = 9; told(5) = 1; box(1, 0, 0, 6) = 300; most(2) = 1; told(5) = 2");
        Calls.run("TOLD ON is what is so behind leave() and come()", asked
                + "leave(0) = 1; told(5) = 2; come(0, 0) = 0; toldOn(1, 0) = 0; toldOn(0, 1) = 2");
        Calls.run("TOLD ON is what is so behind part()", asked
                + "part() = 0; told(5) = 0; toldOn(1, 0) = 0; box(1, 0, 0, 0) = UNKNOWN");
        Calls.run("TOLD ON is what is so behind undo()", asked
                + "undo(1) = 3; told(5) = 1; undo(1) = 2; toldOn(1, 0) = 0");
        Calls.run("TOLD ON is what is so behind goBack()", asked
                + "keep(0) = 1; drop(0) = 1; told(5) = 1; goBack(0) = 1; told(5) = 2; box(1, 0, 0, 0) = 4");
        Calls.run("TOLD ON is what is so, as a NOTICE is put behind a deed", asked + """
            put(0, 4, 0, 0) = 1; put(0, 5, 0, 0) = 0; told(6) = 1; most(1) = 9; put(0, 5, 0, 0) = 0; told(6) = 2
            told(7) = 1; drop(0) = 1; put(0, 5, 0, 0) = 0; told(6) = 2; wish(0, 0, 0, 0, 0, 0, 0) = 1
            would(0, 0, 0, 0, 0) = 3; part() = 0; would(0, 0, 0, 0, 0) = 1
            """);
        // From 0 the first draw is 0: of any number of brokers it is broker 0 where the notice is put.
        Calls.run("TOLD ON is what is so, as a NOTICE comes BY DRAWS behind a deed", asked + """
            wish(0, 0, 0, 0, 0, 0, 0) = 2; drift(1) = 1; told(6) = 1; clientAt(0, 2) = 1; part() = 0
            seed(0) = 1449466924; drift(1) = 2; told(6) = 1
            """);
    }
}
