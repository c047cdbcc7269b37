/** Promises 10 to 20: deeds, and how they are undone. */
public final class DeedsTest {
    public static void main(String[] args) {
        promise10();
        promise11();
        promise12();
        promise13();
        promise14();
        promise15();
        promises16And17();
        promise18();
        promise19();
        promise20();
        eachDeedUndone();
        Check.end();
    }

    private static void promise10() {
        Calls.run("10 broker", """
            broker(1) = UNKNOWN; broker(-1) = UNKNOWN; broker(2147483647) = UNKNOWN; broker(-2147483648) = UNKNOWN
            told(0) = 1; told(10) = 0
            broker(0) = 1; broker(1) = 2; broker(0) = 3; broker(3) = 4; broker(4) = 5; broker(2) = 6
            brokerAt(6, 0) = 2; brokerAt(0, 1) = 10; brokerAt(2, 1) = 66; told(0) = 7; told(10) = 6
            broker(0) = FULL; broker(6) = FULL; broker(7) = UNKNOWN; told(0) = 7; told(10) = 6
            """);
        Calls.run("10 a broker that comes is told of what is wished", """
            client(0) = 0; wish(0, 0, 0, 0, 0, 0, 0) = 0; told(5) = 0; broker(0) = 1; told(5) = 1; toldOn(0, 1) = 1
            broker(1) = 2; toldOn(1, 2) = 1; put(2, 1, 2, 3) = 1; told(6) = 2
            """);
    }

    private static void promise11() {
        Calls.run("11 client", """
            client(1) = UNKNOWN; client(-1) = UNKNOWN; client(-2147483648) = UNKNOWN; told(10) = 0
            broker(0) = 1; client(1) = 0; client(0) = 1; client(0) = 2; client(0) = 3; client(0) = 4; client(1) = 5
            clientAt(5, 0) = 1; clientAt(5, 1) = 1; clientAt(5, 2) = 0; brokerAt(1, 2) = 33
            client(0) = FULL; client(2) = UNKNOWN; told(1) = 6; told(10) = 7
            """);
    }

    private static void promise12() {
        Calls.run("12 wish", """
            wish(0, 0, 0, 0, 0, 0, 0) = UNKNOWN
            client(0) = 0
            wish(0, 3, 9, 3, 9, 3, 9) = 0; wish(0, 3, 0, 3, 0, 3, 0) = 1
            wish(0, -1, 0, 0, 0, 0, 0) = OUTSIDE; wish(0, 4, 0, 0, 0, 0, 0) = OUTSIDE
            wish(0, 0, 0, -1, 0, 0, 0) = OUTSIDE; wish(0, 0, 0, 4, 0, 0, 0) = OUTSIDE
            wish(0, 0, 0, 0, 0, -1, 0) = OUTSIDE; wish(0, 0, 0, 0, 0, 4, 0) = OUTSIDE
            wish(0, 0, -1, 0, 0, 0, 0) = OUTSIDE; wish(0, 0, 10, 0, 0, 0, 0) = OUTSIDE
            wish(0, 0, 0, 0, -1, 0, 0) = OUTSIDE; wish(0, 0, 0, 0, 10, 0, 0) = OUTSIDE
            wish(0, 0, 0, 0, 0, 0, -1) = OUTSIDE; wish(0, 0, 0, 0, 0, 0, 10) = OUTSIDE
            wish(1, 4, 0, 0, 0, 0, 0) = UNKNOWN; wish(-1, 0, 0, 0, 0, 0, 0) = UNKNOWN
            told(2) = 2; told(10) = 3
            wish(0, 1, 1, 1, 1, 1, 1) = 2; wish(0, 1, 1, 1, 1, 1, 1) = 3; wish(0, 0, 0, 0, 0, 0, 0) = 4
            wish(0, 0, 0, 0, 0, 0, 0) = 5; wish(0, 0, 0, 0, 0, 0, 0) = 6; wish(0, 0, 0, 0, 0, 0, 0) = 7
            wish(0, 0, 0, 0, 0, 0, 0) = 8; wish(0, 0, 0, 0, 0, 0, 0) = 9; wish(0, 0, 0, 0, 0, 0, 0) = 10
            client(0) = 1; wish(1, 0, 0, 0, 0, 0, 0) = 11
            wish(0, 0, 0, 0, 0, 0, 0) = FULL; wish(1, 0, 0, 0, 0, 0, 0) = FULL
            wish(0, 4, 0, 0, 0, 0, 0) = OUTSIDE; wish(2, 0, 0, 0, 0, 0, 0) = UNKNOWN
            told(2) = 12; clientAt(0, 5) = 2047; clientAt(1, 5) = 2048
            """);
    }

    private static void promise13() {
        Calls.run("13 drop: later wishes have one number less", """
            client(0) = 0; client(0) = 1; drop(0) = UNKNOWN
            wish(0, 3, 1, 0, 0, 0, 0) = 0; wish(1, 3, 2, 0, 0, 0, 0) = 1; wish(0, 3, 3, 0, 0, 0, 0) = 2
            drop(3) = UNKNOWN; drop(-1) = UNKNOWN; drop(2147483647) = UNKNOWN; drop(-2147483648) = UNKNOWN; told(10) = 5
            drop(1) = 2; wishAt(0, 1) = 1; wishAt(1, 1) = 3; wishAt(1, 0) = 0; wishAt(2, 0) = UNKNOWN
            clientAt(0, 5) = 3; clientAt(1, 5) = 0; put(0, 2, 0, 0) = 0; put(0, 3, 0, 0) = 1
            drop(0) = 1; wishAt(0, 1) = 3; drop(0) = 0; drop(0) = UNKNOWN; told(2) = 0
            """);
        Calls.run("13 a wish dropped, what is kept stays", """
            client(0) = 0; wish(0, 0, 0, 0, 0, 0, 0) = 0; leave(0) = 0; put(0, 0, 0, 0) = 1; drop(0) = 0
            clientAt(0, 3) = 1; put(0, 0, 0, 0) = 0; come(0, 0) = 1; log(0, 0) = 0
            """);
    }

    private static void promise14() {
        Calls.run("14 most", """
            most(0) = OUTSIDE; most(10) = OUTSIDE; most(-1) = OUTSIDE; most(-2147483648) = OUTSIDE
            told(3) = 9; told(10) = 0; most(1) = 9; most(9) = 1; most(9) = 9; told(3) = 9; told(10) = 3
            """);
        Calls.run("14 most is nine at first: the tenth box makes a pair", """
            broker(0) = 1; client(0) = 0
            wish(0, 3, 0, 3, 0, 3, 0) = 0; wish(0, 3, 1, 3, 1, 3, 1) = 1; wish(0, 3, 2, 3, 2, 3, 2) = 2
            wish(0, 3, 3, 3, 3, 3, 3) = 3; wish(0, 3, 4, 3, 4, 3, 4) = 4; wish(0, 3, 5, 3, 5, 3, 5) = 5
            wish(0, 3, 6, 3, 6, 3, 6) = 6; wish(0, 3, 7, 3, 7, 3, 7) = 7; wish(0, 3, 8, 3, 8, 3, 8) = 8
            toldOn(0, 1) = 9; box(0, 1, 0, 6) = 1
            wish(0, 3, 9, 3, 9, 3, 9) = 9; toldOn(0, 1) = 9; box(0, 1, 0, 6) = 8; box(0, 1, 0, 1) = 1; box(0, 1, 1, 6) = 1
            wish(0, 3, 9, 3, 0, 3, 9) = 10; wish(0, 3, 0, 3, 9, 3, 0) = 11; toldOn(0, 1) = 9
            """);
    }

    private static void promise15() {
        Calls.run("15 put", """
            broker(0) = 1; broker(1) = 2; client(0) = 0; client(2) = 1; client(1) = 2; client(2) = 3
            wish(0, 1, 5, 0, 0, 0, 0) = 0; wish(1, 2, 5, 0, 0, 0, 0) = 1; wish(1, 3, 5, 0, 0, 0, 0) = 2
            put(1, 5, 0, 0) = 2; told(6) = 2; clientAt(0, 2) = 1; clientAt(1, 2) = 1; clientAt(2, 2) = 0
            put(1, 4, 0, 0) = 1; told(6) = 3; put(0, 9, 0, 0) = 1; told(6) = 5; put(2, 9, 9, 9) = 1; told(6) = 5
            log(0, 0) = 1; log(1, 0) = 3; log(1, 1) = 2; log(1, 2) = 0; log(3, 0) = NONE; told(4) = 4; told(7) = 0
            put(3, 0, 0, 0) = UNKNOWN; put(-1, 0, 0, 0) = UNKNOWN; put(3, 10, 0, 0) = UNKNOWN
            put(0, 10, 0, 0) = OUTSIDE; put(0, 0, 10, 0) = OUTSIDE; put(0, 0, 0, 10) = OUTSIDE
            put(0, -1, 0, 0) = OUTSIDE; put(0, 0, -1, 0) = OUTSIDE; put(0, 0, 0, -1) = OUTSIDE
            told(4) = 4; told(10) = 13
            """);
        Calls.run("15 vain: where it went, nobody gets it, and it goes no further", """
            broker(0) = 1; broker(1) = 2; broker(1) = 3; client(2) = 0; client(3) = 1; most(1) = 9
            wish(0, 3, 0, 3, 0, 3, 0) = 0; wish(0, 3, 0, 3, 0, 3, 2) = 1; wish(1, 3, 9, 0, 0, 0, 0) = 2
            put(0, 0, 0, 1) = 0; told(6) = 2; told(7) = 1              # 2 in vain
            put(0, 5, 5, 5) = 0; told(6) = 3; told(7) = 2              # 1 in vain
            put(2, 0, 0, 1) = 0; told(6) = 3; told(7) = 2              # put there, it did not go there
            put(0, 0, 0, 2) = 1; told(6) = 5; told(7) = 2
            """);
    }

    private static void promises16And17() {
        Calls.run("16, 17 leave and come", """
            broker(0) = 1; client(1) = 0; client(0) = 1; wish(0, 0, 0, 0, 0, 0, 0) = 0
            come(0, 0) = NOT; leave(0) = 1; leave(0) = NOT; leave(2) = UNKNOWN; leave(-1) = UNKNOWN; told(10) = 5
            clientAt(0, 0) = 1; clientAt(0, 1) = 0
            come(2, 0) = UNKNOWN; come(-1, 0) = UNKNOWN; come(0, 2) = UNKNOWN; come(0, -1) = UNKNOWN; told(10) = 5
            come(1, 2) = UNKNOWN; come(1, 1) = NOT
            put(0, 1, 1, 1) = 1; told(6) = 1; come(0, 0) = 1; clientAt(0, 0) = 0; clientAt(0, 1) = 1; log(0, 0) = 0
            put(0, 1, 1, 1) = 1; told(6) = 1; log(0, 0) = 1; log(0, 1) = 0
            leave(0) = 0; come(0, 1) = 0; clientAt(0, 0) = 1; put(0, 0, 0, 0) = 1; told(6) = 2; clientAt(0, 2) = 3
            """);
        Calls.run("17 eight are kept, what is beyond is lost, the first first", """
            client(0) = 0; wish(0, 0, 0, 0, 0, 0, 0) = 0; put(0, 0, 0, 0) = 1; leave(0) = 0; drift(8) = 9
            clientAt(0, 3) = 8; clientAt(0, 4) = 0; clientAt(0, 2) = 1
            drift(2) = 11; clientAt(0, 3) = 8; clientAt(0, 4) = 2; clientAt(0, 2) = 1; log(0, 0) = 0
            come(0, 0) = 8; clientAt(0, 3) = 0; clientAt(0, 4) = 2; clientAt(0, 2) = 9
            log(0, 0) = 10; log(0, 1) = 9; log(0, 7) = 3; log(0, 8) = 0; log(0, 9) = NONE
            leave(0) = 0; drift(8) = 19; drift(1) = 20; clientAt(0, 4) = 3; come(0, 0) = 8; clientAt(0, 2) = 17
            log(0, 0) = 19; log(0, 7) = 12; log(0, 8) = 10; log(0, 11) = 7; leave(0) = 0; come(0, 0) = 0
            """);
    }

    private static void promise18() {
        Calls.run("18 part: the latest client, with its wishes", """
            part() = NOT; client(0) = 0; client(0) = 1
            wish(1, 3, 1, 0, 0, 0, 0) = 0; wish(0, 3, 2, 0, 0, 0, 0) = 1; wish(1, 3, 3, 0, 0, 0, 0) = 2
            wish(1, 3, 4, 0, 0, 0, 0) = 3; wish(0, 3, 5, 0, 0, 0, 0) = 4; leave(1) = 0; put(0, 3, 0, 0) = 1
            part() = 1; told(2) = 2; wishAt(0, 1) = 2; wishAt(1, 1) = 5; clientAt(0, 5) = 3; clientAt(1, 0) = UNKNOWN
            client(0) = 1; clientAt(1, 1) = 1; clientAt(1, 3) = 0; clientAt(1, 5) = 0
            part() = 1; part() = 0; told(2) = 0; part() = NOT; told(10) = 13
            """);
        Calls.run("18 nothing of the client that went is left to the next one", """
            client(0) = 0; wish(0, 0, 0, 0, 0, 0, 0) = 0; put(0, 0, 0, 0) = 1; leave(0) = 0; drift(8) = 9; drift(1) = 10
            clientAt(0, 4) = 1; part() = 0; client(0) = 0; clientAt(0, 1) = 1; clientAt(0, 2) = 0; clientAt(0, 3) = 0
            clientAt(0, 4) = 0; clientAt(0, 5) = 0; log(0, 0) = NONE; leave(0) = 0; come(0, 0) = 0
            """);
    }

    private static void promise19() {
        // Reckoned apart, from 5: seeds 1222621274, 554244747, 695785320, 2089129857: broker 1 of 3, then 7, 6, 7.
        Calls.run("19 drift: a draw of the brokers, then three of ten", """
            broker(0) = 1; broker(1) = 2; client(1) = 0; wish(0, 3, 7, 3, 6, 3, 7) = 0; seed(5) = 0
            drift(1) = 1; told(11) = 2089129857; clientAt(0, 2) = 1; told(6) = 0; told(10) = 5
            drift(8) = 9; told(10) = 13
            drift(0) = OUTSIDE; drift(9) = OUTSIDE; drift(-1) = OUTSIDE; drift(2147483647) = OUTSIDE
            told(4) = 9; told(10) = 13
            """);
        Calls.run("19 a notice by draws goes where a wish has just come", """
            broker(0) = 1; broker(0) = 2; client(2) = 0; toldOn(2, 0) = 0; wish(0, 0, 0, 0, 0, 0, 0) = 0; seed(5) = 0
            drift(1) = 1; told(6) = 2; clientAt(0, 2) = 1
            """);
        // Reckoned apart, from 2147483647: seeds 1043980748, 288979989, 646343466, 1751031067: broker 1 of 2, then 9, 2, 8.
        Calls.run("19 from the greatest seed", """
            broker(0) = 1; client(1) = 0; wish(0, 3, 9, 3, 2, 3, 8) = 0; seed(2147483647) = 0
            drift(1) = 1; told(11) = 1751031067; clientAt(0, 2) = 1; told(6) = 0
            """);
    }

    private static void promise20() {
        Calls.run("20 undo", """
            undo(1) = NOT; undo(0) = OUTSIDE; undo(17) = OUTSIDE; undo(-1) = OUTSIDE; undo(-2147483648) = OUTSIDE
            undo(16) = NOT
            broker(0) = 1; client(1) = 0; wish(0, 0, 0, 0, 0, 0, 0) = 0; undo(4) = NOT; told(10) = 3
            undo(2) = 1; told(0) = 2; told(1) = 0; told(2) = 0; undo(2) = NOT; undo(1) = 0; told(0) = 1
            """);
        Calls.run("20 sixteen are kept, each notice by draws is one", """
            client(0) = 0; wish(0, 0, 0, 0, 0, 0, 0) = 0; drift(8) = 8; told(10) = 10; drift(8) = 16; told(10) = 16
            drift(3) = 19; told(10) = 16; undo(5) = 11; told(4) = 14; clientAt(0, 2) = 14; log(0, 0) = 13
            drift(4) = 18; told(10) = 15; undo(15) = 0; told(4) = 3; clientAt(0, 2) = 3; undo(1) = NOT
            log(0, 2) = 0; log(0, 3) = NONE
            drift(8) = 11; drift(8) = 19; drift(8) = 27; undo(16) = 0; told(4) = 11
            """);
        Calls.run("20 the seed and the book stay", """
            client(0) = 0; wish(0, 0, 0, 0, 0, 0, 0) = 0; write(0, 0) = 1; seed(5) = 0
            drift(1) = 1; told(11) = 2089129857; write(0, 1) = 2; told(9) = 0
            undo(1) = 2; told(11) = 2089129857; told(8) = 2; told(9) = 1; told(4) = 0; told(10) = 2
            """);
        Calls.run("20 what is asked, refused, written, torn, seeded is no deed", """
            client(0) = 0; told(10) = 1; told(5) = 0; would(0, 0, 0, 0, 0) = 1; broker(5) = UNKNOWN; most(0) = OUTSIDE
            come(0, 0) = NOT; write(0, 0) = 1; tear() = 1; seed(3) = 0; drop(0) = UNKNOWN; undo(2) = NOT; told(10) = 1
            undo(1) = 0; told(1) = 0; told(11) = 3
            """);
    }

    private static void eachDeedUndone() {
        Calls.run("20 each kind of deed undone", """
            broker(0) = 1; client(1) = 0; client(0) = 1; wish(0, 3, 0, 3, 0, 3, 0) = 0; wish(0, 3, 0, 3, 0, 3, 2) = 1
            wish(1, 0, 0, 0, 0, 0, 0) = 2
            broker(1) = 2; undo(1) = 6; told(0) = 2; brokerAt(1, 1) = 1; told(5) = 3
            client(1) = 2; undo(1) = 6; told(1) = 2; brokerAt(1, 2) = 1
            wish(0, 3, 5, 0, 0, 0, 0) = 3; toldOn(1, 0) = 3; undo(1) = 6; told(2) = 3; toldOn(1, 0) = 2
            drop(0) = 2; toldOn(1, 0) = 1; undo(1) = 6; told(2) = 3; toldOn(1, 0) = 2; wishAt(0, 6) = 0
            most(1) = 9; toldOn(1, 0) = 1; undo(1) = 6; told(3) = 9; toldOn(1, 0) = 2
            put(0, 0, 0, 0) = 2; undo(1) = 6; told(4) = 0; told(6) = 0; clientAt(0, 2) = 0; log(0, 0) = NONE
            leave(0) = 1; undo(1) = 6; clientAt(0, 1) = 1
            leave(0) = 1; put(1, 0, 0, 0) = 2; come(0, 0) = 1; toldOn(1, 0) = 0; undo(1) = 8; toldOn(1, 0) = 2
            clientAt(0, 0) = 1; clientAt(0, 1) = 0; clientAt(0, 2) = 0; clientAt(0, 3) = 1; undo(2) = 6
            clientAt(0, 3) = 0
            part() = 1; toldOn(0, 1) = 0; undo(1) = 6; told(1) = 2; told(2) = 3; toldOn(0, 1) = 1; clientAt(1, 5) = 4
            drift(3) = 3; undo(3) = 6; told(4) = 0; clientAt(1, 2) = 0
            """);
        Calls.run("20 a broker undone may come elsewhere, and be undone to where it was", """
            broker(0) = 1; broker(1) = 2; undo(1) = 1; broker(0) = 2; brokerAt(2, 0) = 0; brokerAt(0, 1) = 6
            undo(2) = 0; broker(0) = 1; broker(1) = 2; keep(0) = 1; goBack(0) = 1; brokerAt(2, 0) = 1
            """);
        Calls.run("20 links, vain and what is lost are undone too", """
            broker(0) = 1; client(1) = 0; most(1) = 9; wish(0, 3, 0, 3, 0, 3, 0) = 0; wish(0, 3, 9, 3, 9, 3, 9) = 1
            put(0, 5, 5, 5) = 0; told(6) = 1; told(7) = 1; undo(1) = 5; told(6) = 0; told(7) = 0
            drop(1) = 1; drop(0) = 0; wish(0, 0, 0, 0, 0, 0, 0) = 0; leave(0) = 1; drift(8) = 8; drift(1) = 9
            clientAt(0, 4) = 1; undo(1) = 15; clientAt(0, 4) = 0; clientAt(0, 3) = 8
            come(0, 0) = 8; log(0, 7) = 0
            """);
    }
}
