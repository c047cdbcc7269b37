/** The document's section 3, a run for each sentence that names an edge; the sentence is the title. */
public final class Section3Test {
    public static void main(String[] args) {
        numbered();
        goesOn();
        links();
        gets();
        log();
        kept();
        vain();
        leavesAndComes();
        Check.end();
    }

    private static void numbered() {
        Calls.run("numbered: 0, 1, ..; at first NEXT is 0", Setup.ONE_CLIENT + """
            told(4) = 0; put(0, 0, 0, 0) = 1; log(0, 0) = 0; told(4) = 1; put(0, 0, 0, 0) = 1; log(0, 0) = 1
            told(4) = 2
            """);
        Calls.run("a NOTICE that nobody GETS has its number, too", """
            put(0, 1, 1, 1) = 0; told(4) = 1; put(0, 1, 1, 1) = 0; told(4) = 2; client(0) = 0
            wish(0, 3, 1, 3, 1, 3, 1) = 0; put(0, 1, 1, 2) = 0; put(0, 1, 1, 1) = 1; log(0, 0) = 3; log(0, 1) = NONE
            """);
    }

    private static void goesOn() {
        Calls.run("it is there: where it is PUT, though nobody wishes it", """
            would(0, 0, 0, 0, 0) = 1; broker(0) = 1; would(1, 0, 0, 0, 0) = 2; would(1, 0, 0, 0, 3) = 0
            """);
        Calls.run("it goes to each NEIGHBOUR from which it did not come", """
            broker(0) = 1; broker(1) = 2; client(0) = 0; client(1) = 1; client(2) = 2
            wish(0, 0, 0, 0, 0, 0, 0) = 0; wish(1, 0, 0, 0, 0, 0, 0) = 1; wish(2, 0, 0, 0, 0, 0, 0) = 2
            would(0, 0, 0, 0, 3) = 2; would(1, 0, 0, 0, 3) = 2; would(2, 0, 0, 0, 3) = 2
            put(1, 0, 0, 0) = 3; clientAt(0, 2) = 1; clientAt(1, 2) = 1; clientAt(2, 2) = 1; told(6) = 2
            """);
        Calls.run("and by which a BOX is TOLD ON to this one that it FITS: up to its bounds, not beyond", """
            broker(0) = 1; client(1) = 0; wish(0, 1, 4, 2, 5, 3, 6) = 0
            would(0, 4, 5, 6, 0) = 3; would(0, 0, 9, 6, 0) = 3; would(0, 5, 5, 6, 0) = 1; would(0, 4, 4, 6, 0) = 1
            would(0, 4, 5, 5, 0) = 1; would(0, 4, 5, 7, 0) = 1
            """);
        Calls.run("a BOX TOLD ON by one NEIGHBOUR lets it go to no other one", """
            broker(0) = 1; broker(0) = 2; client(1) = 0; client(2) = 1
            wish(0, 3, 1, 0, 0, 0, 0) = 0; wish(1, 3, 2, 0, 0, 0, 0) = 1
            would(0, 1, 0, 0, 0) = 3; would(0, 2, 0, 0, 0) = 5; would(0, 3, 0, 0, 0) = 1
            would(1, 2, 0, 0, 0) = 7; would(1, 1, 0, 0, 0) = 2
            """);
        Calls.run("any of the BOXES TOLD ON: the first, the last", """
            broker(0) = 1; client(1) = 0; wish(0, 3, 1, 0, 0, 0, 0) = 0; wish(0, 3, 5, 0, 0, 0, 0) = 1
            wish(0, 3, 9, 0, 0, 0, 0) = 2
            would(0, 1, 0, 0, 0) = 3; would(0, 5, 0, 0, 0) = 3; would(0, 9, 0, 0, 0) = 3; would(0, 8, 0, 0, 0) = 1
            """);
        Calls.run("a JOINED BOX is one, too", """
            broker(0) = 1; broker(1) = 2; client(2) = 0; client(1) = 1; most(1) = 9
            wish(0, 3, 0, 3, 0, 3, 0) = 0; wish(0, 3, 0, 3, 0, 3, 2) = 1; wish(1, 3, 0, 3, 0, 3, 6) = 2
            would(0, 0, 0, 1, 0) = 7; would(0, 0, 0, 4, 0) = 3; would(0, 0, 0, 7, 0) = 1
            """);
    }

    private static void links() {
        Calls.run("LINKS: how many times it goes so: none", """
            put(0, 0, 0, 0) = 0; told(6) = 0; broker(0) = 1; put(0, 0, 0, 0) = 0; put(1, 0, 0, 0) = 0; told(6) = 0
            client(1) = 0; wish(0, 0, 0, 0, 0, 0, 0) = 0; put(1, 0, 0, 0) = 1; told(6) = 0
            """);
        Calls.run("LINKS: six in a row, the most", Setup.CHAIN_OF_SEVEN + """
            client(6) = 0; client(0) = 1; wish(0, 0, 0, 0, 0, 0, 0) = 0
            would(0, 0, 0, 0, 3) = 6; would(0, 0, 0, 0, 0) = 127; would(3, 0, 0, 0, 0) = 120; would(3, 0, 0, 0, 3) = 3
            would(6, 0, 0, 0, 3) = 0; put(0, 0, 0, 0) = 1; told(6) = 6; put(3, 0, 0, 0) = 1; told(6) = 9
            wish(1, 0, 0, 0, 0, 0, 0) = 1; put(6, 0, 0, 0) = 2; told(6) = 15; would(3, 0, 0, 0, 3) = 6
            """);
        Calls.run("LINKS: six from one BROKER, and from the edge", Setup.STAR_OF_SEVEN + """
            client(1) = 0; client(2) = 1; client(3) = 2; client(4) = 3; client(5) = 4; client(6) = 5
            wish(0, 0, 0, 0, 0, 0, 0) = 0; wish(1, 0, 0, 0, 0, 0, 0) = 1; wish(2, 0, 0, 0, 0, 0, 0) = 2
            wish(3, 0, 0, 0, 0, 0, 0) = 3; wish(4, 0, 0, 0, 0, 0, 0) = 4; wish(5, 0, 0, 0, 0, 0, 0) = 5
            put(0, 0, 0, 0) = 6; told(6) = 6; put(6, 0, 0, 0) = 6; told(6) = 12; told(7) = 0
            """);
    }

    private static void gets() {
        Calls.run("A CLIENT GETS it, if it has a WISH that FITS: once, however many FIT", """
            client(0) = 0; client(0) = 1; 4 * put(0, 1, 1, 1) = 0
            wish(0, 0, 0, 0, 0, 0, 0) = 0; wish(0, 3, 1, 0, 0, 0, 0) = 1; wish(0, 3, 1, 3, 1, 3, 1) = 2
            put(0, 1, 1, 1) = 1; clientAt(0, 2) = 1; clientAt(1, 2) = 0; log(0, 0) = 4; log(0, 1) = NONE
            """);
        Calls.run("A CLIENT GETS it, whose HOME is a BROKER where it is: not elsewhere", """
            broker(0) = 1; broker(1) = 2; client(0) = 0; client(2) = 1; wish(0, 3, 1, 0, 0, 0, 0) = 0
            wish(1, 3, 2, 0, 0, 0, 0) = 1; put(1, 1, 0, 0) = 1; clientAt(0, 2) = 1; clientAt(1, 2) = 0
            put(1, 2, 0, 0) = 1; clientAt(0, 2) = 1; clientAt(1, 2) = 1; put(1, 3, 0, 0) = 0
            """);
        Calls.run("GETS: none of six, all six", """
            client(0) = 0; client(0) = 1; client(0) = 2; client(0) = 3; client(0) = 4; client(0) = 5
            put(0, 0, 0, 0) = 0; wish(0, 0, 0, 0, 0, 0, 0) = 0; wish(1, 0, 0, 0, 0, 0, 0) = 1
            wish(2, 0, 0, 0, 0, 0, 0) = 2; wish(3, 0, 0, 0, 0, 0, 0) = 3; wish(4, 0, 0, 0, 0, 0, 0) = 4
            wish(5, 0, 0, 0, 0, 0, 0) = 5; put(0, 0, 0, 0) = 6; leave(3) = 0; put(0, 0, 0, 0) = 6; clientAt(3, 3) = 1
            """);
    }

    private static void log() {
        Calls.run("the latest 12 are in it: none, eleven, twelve", Setup.ONE_CLIENT + """
            log(0, 0) = NONE; 11 * put(0, 0, 0, 0) = 1; log(0, 10) = 0; log(0, 11) = NONE
            put(0, 0, 0, 0) = 1; log(0, 11) = 0; log(0, 0) = 11
            """);
        Calls.run("the latest 12 are in it: the thirteenth makes the first one go", Setup.ONE_CLIENT + """
            13 * put(0, 0, 0, 0) = 1; log(0, 0) = 12; log(0, 1) = 11; log(0, 10) = 2; log(0, 11) = 1
            log(0, 12) = OUTSIDE
            12 * put(0, 0, 0, 0) = 1; log(0, 0) = 24; log(0, 11) = 13
            """);
        Calls.run("HAD counts all", Setup.ONE_CLIENT + """
            clientAt(0, 2) = 0; 12 * put(0, 0, 0, 0) = 1; clientAt(0, 2) = 12; put(0, 0, 0, 0) = 1; clientAt(0, 2) = 13
            100 * put(0, 0, 0, 0) = 1; clientAt(0, 2) = 113
            """);
    }

    private static void kept() {
        Calls.run("KEPT (8 at most): none, seven, eight", Setup.ONE_CLIENT + """
            put(0, 0, 0, 0) = 1; clientAt(0, 3) = 0; leave(0) = 0; clientAt(0, 3) = 0
            7 * put(0, 0, 0, 0) = 1; clientAt(0, 3) = 7; put(0, 0, 0, 0) = 1; clientAt(0, 3) = 8; clientAt(0, 4) = 0
            clientAt(0, 2) = 1; log(0, 0) = 0; log(0, 1) = NONE
            """);
        Calls.run("if there are 8, the first one is LOST", Setup.ONE_CLIENT + """
            leave(0) = 0; 9 * put(0, 0, 0, 0) = 1; clientAt(0, 3) = 8; clientAt(0, 4) = 1; come(0, 0) = 8
            log(0, 0) = 8; log(0, 7) = 1; log(0, 8) = NONE; clientAt(0, 2) = 8; clientAt(0, 3) = 0; clientAt(0, 4) = 1
            """);
        Calls.run("if there are 8, the first one is LOST: each time anew", Setup.ONE_CLIENT + """
            leave(0) = 0; 17 * put(0, 0, 0, 0) = 1; clientAt(0, 3) = 8; clientAt(0, 4) = 9; come(0, 0) = 8
            log(0, 0) = 16; log(0, 7) = 9; leave(0) = 0; 9 * put(0, 0, 0, 0) = 1; clientAt(0, 4) = 10
            come(0, 0) = 8; log(0, 0) = 25; log(0, 7) = 18; log(0, 8) = 16; log(0, 11) = 13; clientAt(0, 2) = 16
            """);
        Calls.run("KEPT for it: for each CLIENT that is AWAY its own", Setup.ONE_CLIENT + """
            client(0) = 1; wish(1, 3, 5, 0, 0, 0, 0) = 1; leave(0) = 0; put(0, 5, 0, 0) = 2; clientAt(1, 2) = 1
            leave(1) = 0; put(0, 5, 0, 0) = 2; 8 * put(0, 0, 0, 0) = 1
            clientAt(0, 3) = 8; clientAt(0, 4) = 2; clientAt(1, 3) = 1; clientAt(1, 4) = 0
            come(1, 0) = 1; log(1, 0) = 1; log(1, 1) = 0; come(0, 0) = 8; log(0, 7) = 2
            """);
    }

    private static void vain() {
        String withGap = """
            broker(0) = 1; broker(1) = 2; client(2) = 0; most(1) = 9
            wish(0, 3, 0, 3, 0, 3, 0) = 0; wish(0, 3, 0, 3, 0, 3, 2) = 1
            """;
        Calls.run("VAIN: BROKERS to which it went, where no CLIENT GETS it, and from which it goes no further", withGap
                + """
            would(0, 0, 0, 1, 2) = 4; put(0, 0, 0, 1) = 0; told(7) = 1; told(6) = 2; put(1, 0, 0, 1) = 0; told(7) = 2
            """);
        Calls.run("VAIN: not where it is PUT", withGap + """
            would(2, 0, 0, 1, 2) = 0; put(2, 0, 0, 1) = 0; put(0, 5, 5, 5) = 0; put(0, 0, 0, 3) = 0; told(7) = 0
            """);
        Calls.run("VAIN: not where a CLIENT GETS it, PRESENT or AWAY", withGap + """
            would(0, 0, 0, 2, 2) = 0; put(0, 0, 0, 2) = 1; leave(0) = 2; would(0, 0, 0, 2, 2) = 0; put(0, 0, 0, 2) = 1
            told(7) = 0; clientAt(0, 3) = 1
            """);
        Calls.run("VAIN: not from where it goes further, be it in vain", withGap + """
            would(0, 0, 0, 1, 2) = 4; client(1) = 1; wish(1, 3, 0, 3, 0, 3, 5) = 2
            would(0, 0, 0, 1, 2) = 4; would(0, 0, 0, 4, 2) = 2; would(0, 0, 0, 5, 2) = 0
            """);
        Calls.run("VAIN: several at once, of all NOTICES together", """
            broker(0) = 1; broker(0) = 2; client(1) = 0; client(2) = 1; most(1) = 9
            wish(0, 3, 0, 0, 0, 0, 0) = 0; wish(0, 3, 2, 0, 0, 0, 0) = 1; wish(1, 3, 0, 0, 0, 0, 0) = 2
            wish(1, 3, 3, 0, 0, 0, 0) = 3
            would(0, 1, 0, 0, 2) = 6; put(0, 1, 0, 0) = 0; told(7) = 2; would(0, 2, 0, 0, 2) = 4; put(0, 2, 0, 0) = 1
            told(7) = 3; would(1, 1, 0, 0, 2) = 4; put(1, 1, 0, 0) = 0; told(7) = 4; put(0, 0, 0, 0) = 2; told(7) = 4
            """);
    }

    private static void leavesAndComes() {
        Calls.run("A CLIENT LEAVES: it is AWAY, its HOME stays", """
            broker(0) = 1; client(1) = 0; wish(0, 0, 0, 0, 0, 0, 0) = 0; leave(0) = 1; clientAt(0, 0) = 1
            clientAt(0, 1) = 0
            brokerAt(1, 2) = 1; brokerAt(1, 3) = 1; toldOn(1, 0) = 1; would(0, 0, 0, 0, 0) = 3; would(0, 0, 0, 0, 1) = 1
            """);
        Calls.run("It COMES to a BROKER: that is its HOME: the same, another one", """
            broker(0) = 1; client(1) = 0; wish(0, 0, 0, 0, 0, 0, 0) = 0; leave(0) = 1; come(0, 1) = 0
            clientAt(0, 0) = 1
            clientAt(0, 1) = 1; leave(0) = 1; come(0, 0) = 0; clientAt(0, 0) = 0; clientAt(0, 1) = 1
            brokerAt(0, 2) = 1; brokerAt(1, 2) = 0; toldOn(0, 1) = 1; toldOn(1, 0) = 0
            put(1, 0, 0, 0) = 1; told(6) = 1; leave(0) = 0
            """);
        Calls.run("what is KEPT for it comes into its LOG, the first one first", """
            client(0) = 0; wish(0, 0, 0, 0, 0, 0, 0) = 0; 2 * put(0, 0, 0, 0) = 1; leave(0) = 0; 3 * put(0, 0, 0, 0) = 1
            come(0, 0) = 3; log(0, 0) = 4; log(0, 1) = 3; log(0, 2) = 2; log(0, 3) = 1; log(0, 4) = 0
            clientAt(0, 2) = 5
            leave(0) = 0; come(0, 0) = 0; clientAt(0, 2) = 5; log(0, 0) = 4; put(0, 0, 0, 0) = 1; log(0, 0) = 5
            """);
        Calls.run("what is KEPT comes into a LOG that is full", Setup.ONE_CLIENT + """
            12 * put(0, 0, 0, 0) = 1; leave(0) = 0; 8 * put(0, 0, 0, 0) = 1; log(0, 0) = 11; log(0, 11) = 0
            come(0, 0) = 8
            log(0, 0) = 19; log(0, 7) = 12; log(0, 8) = 11; log(0, 11) = 8; clientAt(0, 2) = 20
            """);
        Calls.run("what is KEPT comes, though the WISH is gone", Setup.ONE_CLIENT + """
            leave(0) = 0; put(0, 0, 0, 0) = 1; drop(0) = 0; put(0, 0, 0, 0) = 0; clientAt(0, 3) = 1; come(0, 0) = 1
            log(0, 0) = 0; clientAt(0, 2) = 1
            """);
    }
}
