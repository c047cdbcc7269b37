/** Promises 1 to 25: each argument at its bounds and beyond them; each place empty and full. */
public final class BoundsTest {
    private static final String TREE = """
        broker(0) = 1; broker(1) = 2; client(2) = 0; client(0) = 1; wish(0, 3, 4, 3, 5, 3, 6) = 0
        wish(0, 3, 4, 3, 5, 3, 8) = 1; wish(1, 0, 0, 0, 0, 0, 0) = 2
        """;
    private static final String TWELVE_WISHES = """
        wish(0, 3, 0, 0, 0, 0, 0) = 0; wish(0, 3, 1, 0, 0, 0, 0) = 1; wish(0, 3, 2, 0, 0, 0, 0) = 2
        wish(0, 3, 3, 0, 0, 0, 0) = 3; wish(0, 3, 4, 0, 0, 0, 0) = 4; wish(0, 3, 5, 0, 0, 0, 0) = 5
        wish(0, 3, 6, 0, 0, 0, 0) = 6; wish(0, 3, 7, 0, 0, 0, 0) = 7; wish(0, 3, 8, 0, 0, 0, 0) = 8
        wish(0, 3, 9, 0, 0, 0, 0) = 9; wish(0, 0, 0, 3, 1, 0, 0) = 10; wish(0, 0, 0, 3, 2, 0, 0) = 11
        """;

    public static void main(String[] args) {
        newObject();
        told();
        brokerAt();
        clientAt();
        log();
        wishAt();
        toldOn();
        box();
        would();
        broker();
        client();
        wish();
        drop();
        most();
        put();
        leaveAndCome();
        part();
        drift();
        undo();
        writeAndTear();
        seed();
        keepAndGoBack();
        calls();
        Check.end();
    }

    private static void newObject() {
        Calls.run("1: One BROKER, and all else empty", """
            told(0) = 1; brokerAt(0, 0) = NONE; brokerAt(0, 1) = 0; brokerAt(1, 0) = UNKNOWN; clientAt(0, 0) = UNKNOWN
            wishAt(0, 0) = UNKNOWN; log(0, 0) = UNKNOWN; toldOn(0, 0) = UNKNOWN; box(0, 0, 0, 0) = UNKNOWN
            drop(0) = UNKNOWN; leave(0) = UNKNOWN; come(0, 0) = UNKNOWN; part() = NOT; undo(1) = NOT
            write(0, 0) = UNKNOWN
            tear() = 0; goBack(0) = NOT; goBack(1) = NOT; wish(0, 0, 0, 0, 0, 0, 0) = UNKNOWN; told(10) = 0
            """);
        NoticeBoxes first = new NoticeBoxes();
        first.broker(0);
        first.client(0);
        first.seed(5);
        first.keep(0);
        NoticeBoxes second = new NoticeBoxes();
        Check.due("1: a second object has its own brokers", second.told(0), 1);
        Check.due("1: a second object has its own clients", second.told(1), 0);
        Check.due("1: a second object has its own seed", second.told(11), 0);
        Check.due("1: a second object has its own images", second.goBack(0), NoticeBoxes.NOT);
        Check.due("1: the first object stays", first.told(0), 2);
    }

    private static void told() {
        Calls.run("2: what 0 to 11", TREE + """
            told(0) = 3; told(1) = 2; told(2) = 3; told(3) = 9; told(4) = 0; told(5) = 6; told(6) = 0; told(7) = 0
            told(8) = 0; told(9) = NONE; told(10) = 7; told(11) = 0
            """ + Calls.beyond(0, 11, "told(?) = OUTSIDE"));
    }

    private static void brokerAt() {
        Calls.run("3: what 0 to 3", TREE + "brokerAt(1, 0) = 0; brokerAt(2, 3) = 3\n"
                + Calls.beyond(0, 3, "brokerAt(2, ?) = OUTSIDE"));
        Calls.run("3: a BROKER that there is not, of one", "brokerAt(0, 0) = NONE\n"
                + Calls.beyond(0, 0, "brokerAt(?, 0) = UNKNOWN"));
        Calls.run("3: a BROKER that there is not, of seven", Setup.CHAIN_OF_SEVEN
                + "brokerAt(0, 1) = 2; brokerAt(6, 1) = 32\n"
                + Calls.beyond(0, 6, "brokerAt(?, 1) = UNKNOWN"));
        Calls.run("3: its ABOVE (NONE: 0)", """
            brokerAt(0, 0) = NONE; broker(0) = 1; brokerAt(0, 0) = NONE; brokerAt(1, 0) = 0
            """);
    }

    private static void clientAt() {
        Calls.run("4: what 0 to 5", TREE + "clientAt(0, 0) = 2; clientAt(0, 5) = 3; clientAt(1, 5) = 4\n"
                + Calls.beyond(0, 5, "clientAt(1, ?) = OUTSIDE"));
        Calls.run("4: a CLIENT that there is not, of none", Calls.beyond(0, -1, "clientAt(?, 0) = UNKNOWN"));
        Calls.run("4: a CLIENT that there is not, of six", Setup.SIX_CLIENTS
                + "clientAt(0, 1) = 1; clientAt(5, 1) = 1\n"
                + Calls.beyond(0, 5, "clientAt(?, 1) = UNKNOWN"));
    }

    private static void log() {
        Calls.run("5: OUTSIDE (i 0 .. 11)", TREE
                + "log(1, 0) = NONE; log(1, 11) = NONE; put(0, 0, 0, 0) = 1; log(1, 0) = 0; log(1, 1) = NONE\n"
                + Calls.beyond(0, 11, "log(1, ?) = OUTSIDE"));
        Calls.run("5: a CLIENT that there is not", TREE + Calls.beyond(0, 1, "log(?, 0) = UNKNOWN"));
        Calls.run("5: of six CLIENTS", Setup.SIX_CLIENTS + "log(5, 11) = NONE\n"
                + Calls.beyond(0, 5, "log(?, 11) = UNKNOWN"));
    }

    private static void wishAt() {
        Calls.run("6: what 0 to 8", TREE + """
            wishAt(0, 0) = 0; wishAt(1, 1) = 4; wishAt(1, 2) = 4; wishAt(1, 3) = 5; wishAt(1, 4) = 5; wishAt(1, 5) = 8
            wishAt(1, 6) = 8; wishAt(1, 7) = 1; wishAt(2, 8) = 3; wishAt(2, 0) = 1
            """ + Calls.beyond(0, 8, "wishAt(2, ?) = OUTSIDE"));
        Calls.run("6: a WISH that there is not, of none", "client(0) = 0\n"
                + Calls.beyond(0, -1, "wishAt(?, 0) = UNKNOWN"));
        Calls.run("6: a WISH that there is not, of twelve", Setup.SIX_CLIENTS + TWELVE_WISHES
                + "wishAt(0, 7) = 100; wishAt(11, 3) = 2\n"
                + Calls.beyond(0, 11, "wishAt(?, 7) = UNKNOWN"));
        Calls.run("6: other WISHES that its BOX COVERS: not itself", """
            client(0) = 0; wish(0, 0, 0, 0, 0, 0, 0) = 0; wishAt(0, 8) = 0
            wish(0, 0, 0, 0, 0, 0, 0) = 1; wishAt(0, 8) = 2; wishAt(1, 8) = 1
            """);
    }

    private static void toldOn() {
        Calls.run("7: BROKERS that there are not", TREE
                + "toldOn(1, 0) = 2; toldOn(0, 1) = 1; toldOn(2, 1) = 2; toldOn(1, 2) = 1\n"
                + Calls.beyond(0, 2, "toldOn(?, 1) = UNKNOWN") + Calls.beyond(0, 2, "toldOn(1, ?) = UNKNOWN"));
        Calls.run("7: BROKERS that are no NEIGHBOURS, of seven", Setup.CHAIN_OF_SEVEN + """
            toldOn(6, 5) = 0; toldOn(5, 6) = 0; toldOn(6, 4) = UNKNOWN; toldOn(4, 6) = UNKNOWN; toldOn(6, 0) = UNKNOWN
            toldOn(0, 6) = UNKNOWN; toldOn(6, 6) = UNKNOWN; toldOn(0, 0) = UNKNOWN
            """ + Calls.beyond(0, 6, "toldOn(?, 6) = UNKNOWN") + Calls.beyond(0, 6, "toldOn(6, ?) = UNKNOWN"));
    }

    private static void box() {
        Calls.run("8: what 0 to 7", TREE + """
            box(1, 0, 1, 0) = 4; box(1, 0, 1, 1) = 4; box(1, 0, 1, 2) = 5; box(1, 0, 1, 3) = 5; box(1, 0, 1, 4) = 8
            box(1, 0, 1, 5) = 8; box(1, 0, 1, 6) = 1; box(1, 0, 1, 7) = 1
            """ + Calls.beyond(0, 7, "box(1, 0, 1, ?) = OUTSIDE"));
        Calls.run("8: a BOX that there is not, of two", TREE + "box(1, 0, 0, 4) = 6; box(1, 0, 1, 4) = 8\n"
                + Calls.beyond(0, 1, "box(1, 0, ?, 4) = UNKNOWN"));
        Calls.run("8: a BOX that there is not, of none", "broker(0) = 1\n"
                + Calls.beyond(0, -1, "box(1, 0, ?, 0) = UNKNOWN")
                + Calls.beyond(0, -1, "box(0, 1, ?, 0) = UNKNOWN"));
        Calls.run("8: a BOX that there is not, of nine", "client(0) = 0; broker(0) = 1\n" + TWELVE_WISHES
                + "toldOn(0, 1) = 9; box(0, 1, 0, 0) = 0; box(0, 1, 8, 0) = 9\n"
                + Calls.beyond(0, 8, "box(0, 1, ?, 0) = UNKNOWN"));
        Calls.run("8: BROKERS that there are not", TREE + Calls.beyond(0, 2, "box(?, 1, 0, 0) = UNKNOWN")
                + Calls.beyond(0, 2, "box(1, ?, 0, 0) = UNKNOWN"));
        Calls.run("8: BROKERS that are no NEIGHBOURS", TREE
                + "box(0, 2, 0, 0) = UNKNOWN; box(2, 0, 0, 0) = UNKNOWN; box(1, 1, 0, 0) = UNKNOWN");
        Calls.run("8: 1, if a WISH has it, 0 if none", TREE + """
            box(1, 0, 0, 7) = 1; most(1) = 9; box(1, 0, 0, 6) = 3; box(1, 0, 0, 7) = 0; box(0, 1, 0, 7) = 1
            """);
    }

    private static void would() {
        Calls.run("9: what 0 to 3", TREE + "would(2, 0, 0, 0, 0) = 7; would(2, 0, 0, 0, 3) = 2\n"
                + Calls.beyond(0, 3, "would(2, 0, 0, 0, ?) = OUTSIDE"));
        Calls.run("9: a BROKER that there is not", TREE + Calls.beyond(0, 2, "would(?, 0, 0, 0, 0) = UNKNOWN"));
        Calls.run("9: of seven BROKERS", Setup.CHAIN_OF_SEVEN + "would(6, 9, 9, 9, 0) = 64\n"
                + Calls.beyond(0, 6, "would(?, 9, 9, 9, 0) = UNKNOWN"));
    }

    private static void broker() {
        Calls.run("10: an ABOVE that there is not", Calls.beyond(0, 0, "broker(?) = UNKNOWN")
                + "told(0) = 1; told(10) = 0; broker(0) = 1\n"
                + Calls.beyond(0, 1, "broker(?) = UNKNOWN") + "told(0) = 2");
        Calls.run("10: FULL (7)", Setup.CHAIN_OF_SEVEN
                + "broker(0) = FULL; broker(6) = FULL; told(0) = 7; told(10) = 6; brokerAt(6, 1) = 32\n"
                + Calls.beyond(0, 6, "broker(?) = UNKNOWN"));
    }

    private static void client() {
        Calls.run("11: a HOME that there is not", Calls.beyond(0, 0, "client(?) = UNKNOWN")
                + "told(1) = 0; told(10) = 0\n"
                + Setup.CHAIN_OF_SEVEN + Calls.beyond(0, 6, "client(?) = UNKNOWN")
                + "client(6) = 0; clientAt(0, 0) = 6");
        Calls.run("11: FULL (6)", Setup.SIX_CLIENTS + "client(0) = FULL; told(1) = 6; told(10) = 6\n"
                + Calls.beyond(0, 0, "client(?) = UNKNOWN"));
    }

    private static void wish() {
        Calls.run("12: a CLIENT that there is not", Calls.beyond(0, -1, "wish(?, 0, 0, 0, 0, 0, 0) = UNKNOWN")
                + Setup.SIX_CLIENTS
                + Calls.beyond(0, 5, "wish(?, 0, 0, 0, 0, 0, 0) = UNKNOWN")
                + "told(2) = 0; told(10) = 6; wish(5, 0, 0, 0, 0, 0, 0) = 0");
        Calls.run("12: each bound", "client(0) = 0; wish(0, 0, 0, 0, 0, 0, 0) = 0; wish(0, 3, 9, 3, 9, 3, 9) = 1\n"
                + Calls.beyond(0, 3, "wish(0, ?, 0, 0, 0, 0, 0) = OUTSIDE")
                + Calls.beyond(0, 9, "wish(0, 0, ?, 0, 0, 0, 0) = OUTSIDE")
                + Calls.beyond(0, 3, "wish(0, 0, 0, ?, 0, 0, 0) = OUTSIDE")
                + Calls.beyond(0, 9, "wish(0, 0, 0, 0, ?, 0, 0) = OUTSIDE")
                + Calls.beyond(0, 3, "wish(0, 0, 0, 0, 0, ?, 0) = OUTSIDE")
                + Calls.beyond(0, 9, "wish(0, 0, 0, 0, 0, 0, ?) = OUTSIDE")
                + "told(2) = 2; told(10) = 3");
        Calls.run("12: v is within its bounds for ANY, too", """
            client(0) = 0; wish(0, 0, 9, 0, 9, 0, 9) = 0; wish(0, 0, 10, 0, 0, 0, 0) = OUTSIDE
            """);
        Calls.run("12: FULL (12)", Setup.SIX_CLIENTS + TWELVE_WISHES + """
            wish(0, 0, 0, 0, 0, 0, 0) = FULL; wish(5, 0, 0, 0, 0, 0, 0) = FULL; told(2) = 12; wishAt(11, 3) = 2
            clientAt(0, 5) = 4095
            """);
    }

    private static void drop() {
        Calls.run("13: a WISH that there is not", TREE + Calls.beyond(0, 2, "drop(?) = UNKNOWN") + """
            told(2) = 3; told(10) = 7; drop(2) = 2; drop(2) = UNKNOWN; drop(0) = 1; drop(0) = 0; drop(0) = UNKNOWN
            """);
        Calls.run("13: of twelve", Setup.SIX_CLIENTS + TWELVE_WISHES + Calls.beyond(0, 11, "drop(?) = UNKNOWN")
                + "drop(11) = 11; drop(11) = UNKNOWN; drop(0) = 10; wishAt(0, 1) = 1; wishAt(9, 3) = 1");
    }

    private static void most() {
        Calls.run("14: MOST (1 .. 9): what it was", "most(1) = 9; most(9) = 1; most(5) = 9\n"
                + Calls.beyond(1, 9, "most(?) = OUTSIDE")
                + "told(3) = 5; told(10) = 3; most(5) = 5");
    }

    private static void put() {
        Calls.run("15: a BROKER that there is not", TREE + Calls.beyond(0, 2, "put(?, 0, 0, 0) = UNKNOWN")
                + "told(4) = 0; told(10) = 7; put(2, 0, 0, 0) = 1");
        Calls.run("15: of seven BROKERS", Setup.CHAIN_OF_SEVEN + "put(6, 9, 9, 9) = 0; told(4) = 1\n"
                + Calls.beyond(0, 6, "put(?, 9, 9, 9) = UNKNOWN") + "told(4) = 1");
    }

    private static void leaveAndCome() {
        Calls.run("16: a CLIENT that there is not", TREE + Calls.beyond(0, 1, "leave(?) = UNKNOWN")
                + "told(10) = 7; leave(1) = 0; leave(0) = 2");
        Calls.run("16: NOT: it is AWAY", TREE + """
            leave(0) = 2; leave(0) = NOT; told(10) = 8; clientAt(0, 1) = 0; leave(1) = 0; leave(1) = NOT
            come(0, 0) = 0; leave(0) = 0
            """);
        Calls.run("16: the last of six", Setup.SIX_CLIENTS
                + "leave(5) = 0; leave(6) = UNKNOWN; clientAt(5, 1) = 0; clientAt(4, 1) = 1; come(5, 0) = 0");
        Calls.run("17: a CLIENT or a BROKER that there is not", TREE + "leave(0) = 2\n"
                + Calls.beyond(0, 1, "come(?, 0) = UNKNOWN")
                + Calls.beyond(0, 2, "come(0, ?) = UNKNOWN")
                + "clientAt(0, 1) = 0; clientAt(0, 0) = 2; told(10) = 8; come(0, 2) = 0");
        Calls.run("17: NOT: it is PRESENT", TREE + """
            come(0, 2) = NOT; come(0, 0) = NOT; clientAt(0, 0) = 2; told(10) = 7; leave(0) = 2; come(0, 0) = 0
            come(0, 0) = NOT; come(0, 2) = NOT; clientAt(0, 0) = 0
            """);
        Calls.run("17: how many were KEPT: none to eight", """
            client(0) = 0; wish(0, 0, 0, 0, 0, 0, 0) = 0; leave(0) = 0; come(0, 0) = 0; leave(0) = 0
            put(0, 0, 0, 0) = 1; come(0, 0) = 1; leave(0) = 0; 8 * put(0, 0, 0, 0) = 1; come(0, 0) = 8
            leave(0) = 0; 9 * put(0, 0, 0, 0) = 1; come(0, 0) = 8; leave(0) = 0; come(0, 0) = 0
            clientAt(0, 2) = 17; clientAt(0, 4) = 1
            """);
    }

    private static void part() {
        Calls.run("18: NOT: there is none", """
            part() = NOT; told(10) = 0; client(0) = 0; part() = 0; part() = NOT; told(10) = 2
            """);
        Calls.run("18: of six", Setup.SIX_CLIENTS + """
            part() = 5; part() = 4; part() = 3; part() = 2; part() = 1; part() = 0; part() = NOT; told(10) = 12
            """);
        Calls.run("18: with its WISHES: all twelve, none", "client(0) = 0\n" + TWELVE_WISHES + """
            client(0) = 1; part() = 1; told(2) = 12; part() = 0; told(2) = 0; brokerAt(0, 3) = 0; client(0) = 0
            clientAt(0, 5) = 0
            """);
        Calls.run("18: the next one has nothing of it", """
            client(0) = 0; wish(0, 0, 0, 0, 0, 0, 0) = 0; 2 * put(0, 0, 0, 0) = 1; leave(0) = 0; 9 * put(0, 0, 0, 0) = 1
            part() = 0; client(0) = 0; clientAt(0, 0) = 0; clientAt(0, 1) = 1; clientAt(0, 2) = 0; clientAt(0, 3) = 0
            clientAt(0, 4) = 0; clientAt(0, 5) = 0; log(0, 0) = NONE; leave(0) = 0; come(0, 0) = 0; log(0, 0) = NONE
            """);
        Calls.run("18: the latest, be it AWAY", """
            client(0) = 0; client(0) = 1; leave(1) = 0; part() = 1; clientAt(1, 0) = UNKNOWN; client(0) = 1
            clientAt(1, 1) = 1
            """);
    }

    private static void drift() {
        Calls.run("19: n (1 .. 8): NEXT", "drift(1) = 1; drift(8) = 9; told(4) = 9; told(10) = 9\n"
                + Calls.beyond(1, 8, "drift(?) = OUTSIDE")
                + "told(4) = 9; told(10) = 9; told(11) = " + Setup.seedAfter(0, 36));
        Calls.run("19: NEXT, behind NOTICES that were put", """
            put(0, 0, 0, 0) = 0; drift(2) = 3; put(0, 0, 0, 0) = 0; drift(1) = 5
            """);
    }

    private static void undo() {
        Calls.run("20: n (1 .. 16)", "20 * put(0, 0, 0, 0) = 0\n" + Calls.beyond(1, 16, "undo(?) = OUTSIDE")
                + "told(10) = 16; told(4) = 20; undo(16) = 0; told(4) = 4; undo(1) = NOT\n"
                + Calls.beyond(1, 16, "undo(?) = OUTSIDE"));
        Calls.run("20: NOT: not so many", """
            undo(1) = NOT; undo(16) = NOT; 3 * put(0, 0, 0, 0) = 0; undo(4) = NOT; undo(16) = NOT; told(4) = 3
            told(10) = 3; undo(3) = 0; told(4) = 0; undo(1) = NOT
            """);
        Calls.run("20: how many can be then", "16 * put(0, 0, 0, 0) = 0; undo(1) = 15; undo(15) = 0; told(4) = 0");
    }

    private static void writeAndTear() {
        Calls.run("21: a CLIENT that there is not", Calls.beyond(0, -1, "write(?, 0) = UNKNOWN") + Setup.SIX_CLIENTS
                + Calls.beyond(0, 5, "write(?, 0) = UNKNOWN")
                + "told(8) = 0; write(5, 0) = 1; told(9) = NONE; write(0, 1) = 2; told(9) = 1");
        Calls.run("21: HAD of a CLIENT, any", """
            client(0) = 0; write(0, -2147483648) = 1; told(9) = 0; tear() = 1; write(0, 2147483647) = 1; told(9) = 0
            tear() = 1; write(0, -1) = 1; told(9) = 0; tear() = 1; write(0, 0) = 1; told(9) = NONE
            """);
        String twenty = "client(0) = 0\n" + Setup.entries(20);
        Calls.run("21: FULL (20)", twenty
                + "write(0, 0) = FULL; told(8) = 20; tear() = 20; write(0, 0) = 1; told(8) = 1");
        Calls.run("22: No BOOK: how much it had", twenty
                + "tear() = 20; tear() = 0; told(8) = 0; told(9) = NONE; told(10) = 1");
    }

    private static void seed() {
        Calls.run("23: v (0 .. 2147483647): what it was", """
            seed(2147483647) = 0; seed(0) = 2147483647; seed(1) = 0; told(11) = 1; told(10) = 0
            """);
        Calls.run("23: OUTSIDE", """
            seed(4) = 0; seed(-1) = OUTSIDE; seed(-2) = OUTSIDE; seed(-2147483648) = OUTSIDE
            seed(-2147483647) = OUTSIDE; told(11) = 4
            """);
    }

    private static void keepAndGoBack() {
        Calls.run("24: an IMAGE that there is not", "client(0) = 0\n" + Calls.beyond(0, 1, "keep(?) = UNKNOWN") + """
            told(10) = 1; goBack(0) = NOT; goBack(1) = NOT; keep(0) = 1; told(10) = 0; keep(1) = 1; keep(1) = 1
            """);
        Calls.run("25: an IMAGE that there is not", "keep(0) = 1; keep(1) = 1; client(0) = 0\n"
                + Calls.beyond(0, 1, "goBack(?) = UNKNOWN")
                + "told(10) = 1; told(1) = 1; goBack(1) = 1; told(1) = 0; told(10) = 0");
        Calls.run("25: NOT: it was not kept", """
            client(0) = 0; goBack(0) = NOT; goBack(1) = NOT; keep(0) = 1; goBack(1) = NOT; told(1) = 1; goBack(0) = 1
            goBack(1) = NOT
            """);
        Calls.run("25: goBack() takes no IMAGE, and leaves it", """
            keep(0) = 1; client(0) = 0; goBack(0) = 1; told(1) = 0; client(0) = 0; goBack(0) = 1; told(1) = 0
            goBack(1) = NOT
            """);
        Calls.run("25: the other IMAGE stays", """
            client(0) = 0; keep(0) = 1; client(0) = 1; keep(1) = 1; goBack(0) = 1; told(1) = 1; goBack(1) = 1
            told(1) = 2; goBack(0) = 1; told(1) = 1
            """);
    }

    /** "An object is used for at most 512 calls": the last one is answered as the first. */
    private static void calls() {
        Calls.run("512 calls: NOTICES in a LOG", """
            client(0) = 0; wish(0, 0, 0, 0, 0, 0, 0) = 0; 506 * put(0, 0, 0, 0) = 1; told(4) = 506; log(0, 0) = 505
            log(0, 11) = 494; clientAt(0, 2) = 506
            """);
        Calls.run("512 calls: a WISH come and gone", "broker(0) = 1; client(1) = 0\n"
                + "wish(0, 0, 0, 0, 0, 0, 0) = 0; drop(0) = 0\n".repeat(254) + "told(5) = 0; told(10) = 16");
        StringBuilder drifts = new StringBuilder("broker(0) = 1; client(1) = 0; wish(0, 0, 0, 0, 0, 0, 0) = 0\n");
        drifts.append("leave(0) = 1\n");
        for (int next = 8; next <= 500 * 8; next += 8) {
            drifts.append("drift(8) = ").append(next).append('\n');
        }
        Calls.run("512 calls: as many NOTICES as there can be, nearly all LOST", drifts + """
            told(4) = 4000; clientAt(0, 3) = 8; clientAt(0, 4) = 3992; come(0, 0) = 8; log(0, 0) = 3999; told(10) = 16
            """);
    }
}
