/** The document's section 4, a run for each sentence that names an edge; the sentence is the title. */
public final class Section4Test {
    public static void main(String[] args) {
        book();
        wrong();
        draws();
        notices();
        undoneAtMost();
        undoneDeeds();
        undoneSinceImage();
        stay();
        images();
        Check.end();
    }

    private static void book() {
        Calls.run("THE BOOK (20 at most)", Setup.ONE_CLIENT + "told(8) = 0\n" + Setup.entries(20) + """
            told(8) = 20; told(9) = NONE; write(0, 0) = FULL; write(0, 7) = FULL; told(8) = 20; told(9) = NONE
            put(0, 0, 0, 0) = 1; told(9) = 0; tear() = 20; told(8) = 0; told(9) = NONE; write(0, 1) = 1; told(9) = NONE
            """);
        Calls.run("THE BOOK tells HAD of a CLIENT: the last entry counts, too", Setup.ONE_CLIENT
                + Setup.entries(19) + "write(0, 1) = 20; told(9) = 19");
    }

    private static void wrong() {
        Calls.run("WRONG: NONE, as nothing is written", """
            told(9) = NONE; client(0) = 0; told(9) = NONE; tear() = 0; told(9) = NONE
            """);
        Calls.run("WRONG: the first that is otherwise now", Setup.ONE_CLIENT + """
            client(0) = 1; write(1, 0) = 1; write(0, 0) = 2; write(0, 1) = 3; write(0, 2) = 4; told(9) = 2
            put(0, 0, 0, 0) = 1; told(9) = 1; put(0, 0, 0, 0) = 1; told(9) = 1; undo(2) = 3; told(9) = 2
            """);
        Calls.run("WRONG: one too few, one too many, and far off", Setup.ONE_CLIENT + """
            put(0, 0, 0, 0) = 1; write(0, 1) = 1; told(9) = NONE; write(0, 0) = 2; told(9) = 1; tear() = 2
            write(0, 2) = 1
            told(9) = 0; tear() = 1; write(0, -2147483648) = 1; told(9) = 0; tear() = 1; write(0, 2147483647) = 1
            told(9) = 0
            tear() = 1; write(0, -1) = 1; told(9) = 0; tear() = 1; write(0, -1000000001) = 1; told(9) = 0
            """);
        Calls.run("a CLIENT that there is no more: it is, too", Setup.ONE_CLIENT + """
            client(0) = 1; write(0, 0) = 1; write(1, 0) = 2; told(9) = NONE; part() = 1; told(9) = 1; part() = 0
            told(9) = 0
            undo(1) = 4; told(9) = 1; undo(1) = 3; told(9) = NONE
            """);
        Calls.run("a CLIENT that there is again has its HAD anew", Setup.ONE_CLIENT + """
            write(0, 0) = 1; put(0, 0, 0, 0) = 1; told(9) = 0; part() = 0; told(9) = 0; client(0) = 0; told(9) = NONE
            """);
        Calls.run("a CLIENT that an IMAGE does not have is no more", """
            keep(0) = 1; client(0) = 0; write(0, 0) = 1; told(9) = NONE; goBack(0) = 1; told(8) = 1; told(9) = 0
            """);
        Calls.run("HAD: what is KEPT or LOST is not had", Setup.ONE_CLIENT + """
            write(0, 0) = 1; leave(0) = 0; 9 * put(0, 0, 0, 0) = 1; told(9) = NONE; come(0, 0) = 8; told(9) = 0
            write(0, 8) = 2; tear() = 2; write(0, 8) = 1; told(9) = NONE
            """);
    }

    private static int drawn(int seed, int draws, int n) {
        return Setup.seedAfter(seed, draws) / 65536 % n;
    }

    private static void draws() {
        int[] seeds = {0, 1, 2, 3, 65535, 65536, 1000000007, 1073741823, 1073741824, 2147483646, 2147483647};
        for (int seed : seeds) {
            for (int brokers = 1; brokers <= 7; brokers++) {
                draw(seed, brokers);
            }
        }
        Calls.run("THE SEED (0 at first)", "told(11) = 0; drift(1) = 1; told(11) = " + Setup.seedAfter(0, 4));
    }

    /** The one client is where the notice must come to be put, and wishes for nothing but what it must say. */
    private static void draw(int seed, int brokers) {
        StringBuilder text = new StringBuilder();
        for (int b = 1; b < brokers; b++) {
            text.append("broker(0) = ").append(b).append('\n');
        }
        text.append("client(").append(drawn(seed, 1, brokers)).append(") = 0; seed(").append(seed).append(") = 0\n");
        int[] wish = {0, 3, drawn(seed, 2, 10), 3, drawn(seed, 3, 10), 3, drawn(seed, 4, 10)};
        text.append(Calls.written("wish", wish)).append(" = 0\n");
        text.append("drift(1) = 1; clientAt(0, 2) = 1; log(0, 0) = 0; told(6) = 0\n");
        text.append("told(11) = ").append(Setup.seedAfter(seed, 4));
        Calls.run("BY DRAWS: a DRAW of B, then DRAWS of 10, of 10, of 10: seed " + seed + ", B "
                + brokers, text.toString());
    }

    private static void notices() {
        Calls.run("n times: once, eight times", Setup.ONE_CLIENT + "drift(1) = 1; told(11) = " + Setup.seedAfter(0, 4)
                + "; clientAt(0, 2) = 1; drift(8) = 9; told(11) = " + Setup.seedAfter(0, 36)
                + "; clientAt(0, 2) = 9; told(10) = 11");
        Calls.run("n times: eight at once are as eight apart", Setup.ONE_CLIENT
                + "seed(77) = 0; keep(0) = 1; drift(8) = 8; told(11) = "
                + Setup.seedAfter(77, 32)
                + "; goBack(0) = 1; told(11) = 77; drift(1) = 1; drift(1) = 2; drift(1) = 3; drift(1) = 4"
                + "; drift(1) = 5; drift(1) = 6; drift(1) = 7; drift(1) = 8; told(11) = " + Setup.seedAfter(77, 32));
    }

    private static void undoneAtMost() {
        Calls.run("UNDONE: 16 at most are kept: fifteen, sixteen, seventeen", Setup.ONE_CLIENT + """
            13 * put(0, 0, 0, 0) = 1; told(10) = 15; put(0, 0, 0, 0) = 1; told(10) = 16; put(0, 0, 0, 0) = 1
            told(10) = 16
            undo(16) = 0; told(1) = 1; told(2) = 0; told(4) = 0; undo(1) = NOT      # all but client()
            """);
        Calls.run("UNDONE: 16 at most are kept: all of sixteen", Setup.ONE_CLIENT + """
            14 * put(0, 0, 0, 0) = 1; told(10) = 16; undo(16) = 0; told(1) = 0; told(2) = 0; told(4) = 0; undo(1) = NOT
            """);
        Calls.run("UNDONE: the latest deeds, as many as asked", Setup.ONE_CLIENT + """
            40 * put(0, 0, 0, 0) = 1; undo(1) = 15; told(4) = 39; undo(3) = 12; told(4) = 36; clientAt(0, 2) = 36
            log(0, 0) = 35
            5 * put(0, 0, 0, 0) = 1; told(10) = 16; undo(16) = 0; told(4) = 25; log(0, 0) = 24; log(0, 11) = 13
            """);
        Calls.run("UNDONE: each NOTICE BY DRAWS", Setup.ONE_CLIENT + """
            drift(8) = 8; told(10) = 10; undo(3) = 7; told(4) = 5; clientAt(0, 2) = 5
            drift(8) = 13; told(10) = 15; drift(8) = 21; told(10) = 16; undo(16) = 0; told(4) = 5
            """);
    }

    private static void undoneDeeds() {
        Calls.run("the latest deeds: each of the nine calls is one", """
            broker(0) = 1; told(10) = 1; client(0) = 0; told(10) = 2; wish(0, 0, 0, 0, 0, 0, 0) = 0; told(10) = 3
            drop(0) = 0; told(10) = 4; most(9) = 9; told(10) = 5; put(0, 0, 0, 0) = 0; told(10) = 6; leave(0) = 0
            told(10) = 7
            come(0, 1) = 0; told(10) = 8; part() = 0; told(10) = 9; drift(1) = 2; told(10) = 10
            """);
        Calls.run("what is no deed is not undone: undo() itself, the book, the seed, what is asked", Setup.ONE_CLIENT
                + """
            write(0, 0) = 1; told(10) = 2; tear() = 1; told(10) = 2; seed(9) = 0; told(10) = 2; would(0, 0, 0, 0, 1) = 1
            told(10) = 2; log(0, 0) = NONE; toldOn(0, 0) = UNKNOWN; told(10) = 2; undo(1) = 1; undo(1) = 0; told(10) = 0
            """);
        Calls.run("what is refused is no deed", Setup.ONE_CLIENT + """
            broker(1) = UNKNOWN; client(1) = UNKNOWN; wish(1, 0, 0, 0, 0, 0, 0) = UNKNOWN
            wish(0, 4, 0, 0, 0, 0, 0) = OUTSIDE
            drop(1) = UNKNOWN; most(0) = OUTSIDE; most(10) = OUTSIDE; put(1, 0, 0, 0) = UNKNOWN
            put(0, 0, 0, 10) = OUTSIDE
            leave(1) = UNKNOWN; come(0, 0) = NOT; come(0, 1) = UNKNOWN; drift(0) = OUTSIDE; drift(9) = OUTSIDE
            undo(3) = NOT; undo(0) = OUTSIDE; undo(17) = OUTSIDE; told(10) = 2
            """);
        Calls.run("most() to what it was is a deed all the same", """
            most(9) = 9; told(10) = 1; undo(1) = 0; told(3) = 9
            """);
    }

    private static void undoneSinceImage() {
        Calls.run("since the IMAGE: nothing ahead of keep() is undone", Setup.ONE_CLIENT + """
            put(0, 0, 0, 0) = 1; keep(0) = 1; told(10) = 0; undo(1) = NOT; put(0, 0, 0, 0) = 1; told(10) = 1
            undo(2) = NOT; undo(1) = 0; told(4) = 1; undo(1) = NOT
            """);
        Calls.run("since the IMAGE: either of them", Setup.ONE_CLIENT + """
            put(0, 0, 0, 0) = 1; keep(1) = 1; told(10) = 0; put(0, 0, 0, 0) = 1; keep(0) = 1; told(10) = 0
            put(0, 0, 0, 0) = 1; goBack(1) = 1; told(10) = 0; undo(1) = NOT
            """);
        Calls.run("since the IMAGE: what was ahead of keep() does not come back by goBack()", Setup.ONE_CLIENT + """
            keep(0) = 1; 3 * put(0, 0, 0, 0) = 1; told(10) = 3; goBack(0) = 1; told(10) = 0; undo(1) = NOT; told(4) = 0
            """);
        Calls.run("since the IMAGE: one that is refused is none", Setup.ONE_CLIENT + """
            keep(2) = UNKNOWN; keep(-1) = UNKNOWN; goBack(0) = NOT; goBack(2) = UNKNOWN; told(10) = 2; undo(2) = 0
            told(1) = 0
            """);
        Calls.run("since the IMAGE: sixteen anew, behind a ring in the middle", Setup.ONE_CLIENT + """
            20 * put(0, 0, 0, 0) = 1; keep(0) = 1; 16 * put(0, 0, 0, 0) = 1; told(10) = 16; undo(16) = 0; told(4) = 20
            undo(1) = NOT; clientAt(0, 2) = 20; log(0, 0) = 19; log(0, 11) = 8
            """);
    }

    private static void stay() {
        Calls.run("THE SEED stays", "drift(2) = 2; told(11) = " + Setup.seedAfter(0, 8)
                + "; undo(2) = 0; told(4) = 0; told(11) = "
                + Setup.seedAfter(0, 8) + "; seed(5) = " + Setup.seedAfter(0, 8)
                + "; drift(1) = 1; undo(1) = 0; told(11) = "
                + Setup.seedAfter(5, 4));
        Calls.run("THE BOOK stays", Setup.ONE_CLIENT + """
            write(0, 0) = 1; put(0, 0, 0, 0) = 1; write(0, 1) = 2; undo(1) = 2; told(8) = 2; told(9) = 1
            undo(2) = 0; told(8) = 2; told(9) = 0; tear() = 2; client(0) = 0; undo(1) = 0; told(8) = 0
            """);
        Calls.run("all of sections 1 to 3 is as ahead of them: NEXT, LINKS, VAIN, MOST", """
            broker(0) = 1; client(1) = 0; most(1) = 9; wish(0, 3, 0, 3, 0, 3, 0) = 0; wish(0, 3, 2, 3, 0, 3, 0) = 1
            put(0, 1, 0, 0) = 0; told(4) = 1; told(6) = 1; told(7) = 1; undo(1) = 5; told(4) = 0; told(6) = 0
            told(7) = 0
            toldOn(1, 0) = 1; undo(3) = 2; told(3) = 9; told(2) = 0; toldOn(1, 0) = 0; undo(2) = 0; told(0) = 1
            told(1) = 0
            """);
        Calls.run("all of sections 1 to 3 is as ahead of them: whose WISH it is", """
            client(0) = 0; client(0) = 1; wish(0, 3, 1, 0, 0, 0, 0) = 0; wish(1, 3, 2, 0, 0, 0, 0) = 1; drop(0) = 1
            wishAt(0, 0) = 1; wishAt(0, 1) = 2; undo(1) = 4; wishAt(0, 0) = 0; wishAt(0, 1) = 1; wishAt(1, 0) = 1
            wishAt(1, 1) = 2; clientAt(0, 5) = 1; clientAt(1, 5) = 2; put(0, 1, 0, 0) = 1; clientAt(0, 2) = 1
            """);
        Calls.run("all of sections 1 to 3 is as ahead of them: LOG, KEPT, LOST", Setup.ONE_CLIENT + """
            12 * put(0, 0, 0, 0) = 1; leave(0) = 0; 8 * put(0, 0, 0, 0) = 1; put(0, 0, 0, 0) = 1; come(0, 0) = 8
            log(0, 0) = 20; log(0, 11) = 8; undo(1) = 15; clientAt(0, 1) = 0; clientAt(0, 2) = 12; clientAt(0, 3) = 8
            clientAt(0, 4) = 1; log(0, 0) = 11; log(0, 11) = 0; undo(1) = 14; clientAt(0, 4) = 0; clientAt(0, 3) = 8
            come(0, 0) = 8; log(0, 0) = 19; log(0, 7) = 12; log(0, 8) = 11
            """);
    }

    private static void images() {
        Calls.run("IMAGES 0, 1: neither kept at first", """
            goBack(0) = NOT; goBack(1) = NOT; keep(1) = 1; goBack(0) = NOT; goBack(1) = 1
            """);
        Calls.run("IMAGES keep all of sections 1 to 3", """
            broker(0) = 1; client(1) = 0; most(1) = 9; wish(0, 3, 0, 3, 0, 3, 0) = 0; wish(0, 3, 2, 3, 0, 3, 0) = 1
            put(0, 1, 0, 0) = 0; put(0, 2, 0, 0) = 1; leave(0) = 1; 9 * put(0, 2, 0, 0) = 1; keep(0) = 1
            come(0, 0) = 8; drop(0) = 1; broker(1) = 2; most(5) = 1; put(2, 0, 0, 0) = 0; part() = 0; goBack(0) = 1
            told(0) = 2; told(1) = 1; told(2) = 2; told(3) = 1; told(4) = 11; told(5) = 1; told(6) = 11; told(7) = 1
            clientAt(0, 0) = 1; clientAt(0, 1) = 0; clientAt(0, 2) = 1; clientAt(0, 3) = 8; clientAt(0, 4) = 1
            clientAt(0, 5) = 3; log(0, 0) = 1; log(0, 1) = NONE; box(1, 0, 0, 6) = 3; come(0, 0) = 8; log(0, 7) = 3
            """);
        Calls.run("IMAGES keep who is ABOVE", """
            broker(0) = 1; keep(1) = 1; broker(1) = 2; keep(0) = 1; goBack(1) = 1; broker(0) = 2; brokerAt(2, 0) = 0
            toldOn(2, 0) = 0; goBack(0) = 1; brokerAt(2, 0) = 1; brokerAt(0, 1) = 2; toldOn(2, 0) = UNKNOWN
            """);
        Calls.run("IMAGES keep whose WISH it is", """
            client(0) = 0; client(0) = 1; wish(0, 3, 1, 0, 0, 0, 0) = 0; wish(1, 3, 2, 0, 0, 0, 0) = 1; keep(1) = 1
            drop(0) = 1; wishAt(0, 0) = 1; goBack(1) = 1; wishAt(0, 0) = 0; wishAt(1, 0) = 1; clientAt(0, 5) = 1
            """);
        Calls.run("IMAGES keep THE SEED", """
            seed(7) = 0; keep(0) = 1; seed(8) = 7; keep(1) = 1; drift(1) = 1; goBack(0) = 1; told(11) = 7
            goBack(1) = 1; told(11) = 8
            """);
        Calls.run("IMAGES keep no BOOK", Setup.ONE_CLIENT + """
            write(0, 0) = 1; keep(0) = 1; write(0, 0) = 2; goBack(0) = 1; told(8) = 2; tear() = 2; goBack(0) = 1
            told(8) = 0
            """);
        Calls.run("an IMAGE of nothing: a new object", """
            keep(0) = 1; broker(0) = 1; client(1) = 0; wish(0, 0, 0, 0, 0, 0, 0) = 0; put(0, 0, 0, 0) = 1; seed(3) = 0
            goBack(0) = 1; told(0) = 1; told(1) = 0; told(2) = 0; told(3) = 9; told(4) = 0; told(5) = 0; told(6) = 0
            told(7) = 0; told(10) = 0; told(11) = 0; clientAt(0, 0) = UNKNOWN; brokerAt(1, 0) = UNKNOWN
            """);
    }
}
