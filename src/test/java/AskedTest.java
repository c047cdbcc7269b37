/** Promises 1 to 9: what is so. */
public final class AskedTest {
    public static void main(String[] args) {
        promise1();
        promise2();
        promise3();
        promise4();
        promise5();
        promise6();
        promise7();
        promise8();
        joins();
        promise9();
        Check.end();
    }

    private static void promise1() {
        Calls.run("1 a new object has one broker and nothing else", """
            told(0) = 1; told(1) = 0; told(2) = 0; told(3) = 9; told(4) = 0; told(5) = 0
            told(6) = 0; told(7) = 0; told(8) = 0; told(9) = NONE; told(10) = 0; told(11) = 0
            brokerAt(0, 0) = NONE; brokerAt(0, 1) = 0; brokerAt(0, 2) = 0; brokerAt(0, 3) = 0
            brokerAt(1, 0) = UNKNOWN; clientAt(0, 0) = UNKNOWN; wishAt(0, 0) = UNKNOWN
            goBack(0) = NOT; goBack(1) = NOT; undo(1) = NOT; part() = NOT
            """);
    }

    private static void promise2() {
        Calls.run("2 told", """
            broker(0) = 1; broker(1) = 2; client(2) = 0; client(0) = 1
            wish(0, 3, 0, 3, 0, 3, 0) = 0; wish(0, 3, 0, 3, 0, 3, 9) = 1; wish(1, 0, 0, 0, 0, 0, 0) = 2
            most(1) = 9
            told(0) = 3; told(1) = 2; told(2) = 3; told(3) = 1; told(4) = 0
            told(5) = 4                            # 2 to 1, 1 to 0, 0 to 1, 1 to 2: one each
            put(1, 0, 0, 4) = 1                    # to 0, where client 1 gets it, and in vain to 2
            told(4) = 1; told(6) = 2; told(7) = 1
            put(2, 0, 0, 0) = 2                    # 2 to 1, 1 to 0
            told(4) = 2; told(6) = 4; told(7) = 1
            write(1, 2) = 1; write(0, 1) = 2; write(1, 1) = 3; write(0, 7) = 4
            told(8) = 4; told(9) = 2; told(10) = 10; seed(77) = 0; told(11) = 77
            put(0, 0, 0, 9) = 2; told(9) = 0       # client 1 has 3 now
            undo(1) = 10; told(9) = 2
            told(12) = OUTSIDE; told(-1) = OUTSIDE; told(2147483647) = OUTSIDE; told(-2147483648) = OUTSIDE
            """);
        Calls.run("2 a client that there is no more is wrong in the book", """
            client(0) = 0; client(0) = 1; write(0, 0) = 1; write(1, 0) = 2; told(9) = NONE
            part() = 1; told(9) = 1; client(0) = 1; told(9) = NONE; part() = 1; part() = 0; told(9) = 0
            """);
    }

    private static void promise3() {
        Calls.run("3 brokerAt", """
            broker(0) = 1; broker(0) = 2; broker(1) = 3
            brokerAt(0, 0) = NONE; brokerAt(1, 0) = 0; brokerAt(2, 0) = 0; brokerAt(3, 0) = 1
            brokerAt(0, 1) = 6; brokerAt(1, 1) = 9; brokerAt(2, 1) = 1; brokerAt(3, 1) = 2
            client(3) = 0; client(1) = 1; client(3) = 2
            wish(1, 0, 0, 0, 0, 0, 0) = 0; wish(2, 0, 0, 0, 0, 0, 0) = 1; wish(0, 0, 0, 0, 0, 0, 0) = 2
            brokerAt(3, 2) = 5; brokerAt(1, 2) = 2; brokerAt(0, 2) = 0
            brokerAt(3, 3) = 6; brokerAt(1, 3) = 1; brokerAt(2, 3) = 0
            leave(0) = 3; brokerAt(3, 2) = 5; brokerAt(3, 3) = 6     # away, its home stays
            come(0, 2) = 0; brokerAt(3, 2) = 4; brokerAt(2, 2) = 1; brokerAt(2, 3) = 4; brokerAt(3, 3) = 2
            brokerAt(4, 0) = UNKNOWN; brokerAt(-1, 0) = UNKNOWN; brokerAt(4, 9) = UNKNOWN
            brokerAt(2147483647, 0) = UNKNOWN; brokerAt(-2147483648, 0) = UNKNOWN
            brokerAt(0, 4) = OUTSIDE; brokerAt(0, -1) = OUTSIDE
            """);
    }

    private static void promise4() {
        Calls.run("4 clientAt", """
            broker(0) = 1; client(1) = 0; client(0) = 1
            wish(0, 3, 1, 0, 0, 0, 0) = 0; wish(1, 0, 0, 0, 0, 0, 0) = 1; wish(0, 3, 2, 0, 0, 0, 0) = 2
            clientAt(0, 0) = 1; clientAt(0, 1) = 1; clientAt(0, 2) = 0; clientAt(0, 3) = 0; clientAt(0, 4) = 0
            clientAt(0, 5) = 5; clientAt(1, 5) = 2
            put(0, 1, 0, 0) = 2; put(0, 3, 0, 0) = 1; clientAt(0, 2) = 1; clientAt(1, 2) = 2
            leave(0) = 1; put(0, 2, 0, 0) = 2
            clientAt(0, 0) = 1; clientAt(0, 1) = 0; clientAt(0, 2) = 1; clientAt(0, 3) = 1; clientAt(0, 4) = 0
            clientAt(2, 0) = UNKNOWN; clientAt(-1, 0) = UNKNOWN; clientAt(2, 6) = UNKNOWN
            clientAt(2147483647, 0) = UNKNOWN; clientAt(-2147483648, 0) = UNKNOWN
            clientAt(0, 6) = OUTSIDE; clientAt(0, -1) = OUTSIDE
            """);
    }

    private static void promise5() {
        Calls.run("5 log: the latest twelve", """
            client(0) = 0; wish(0, 1, 8, 0, 0, 0, 0) = 0
            log(0, 0) = NONE; log(0, 11) = NONE
            put(0, 1, 0, 0) = 1; put(0, 9, 0, 0) = 0; put(0, 2, 0, 0) = 1
            log(0, 0) = 2; log(0, 1) = 0; log(0, 2) = NONE; log(0, 11) = NONE
            put(0, 0, 0, 0) = 1; put(0, 0, 0, 0) = 1; put(0, 0, 0, 0) = 1; put(0, 0, 0, 0) = 1; put(0, 0, 0, 0) = 1
            put(0, 0, 0, 0) = 1; put(0, 0, 0, 0) = 1; put(0, 0, 0, 0) = 1; put(0, 0, 0, 0) = 1; log(0, 11) = NONE
            put(0, 0, 0, 0) = 1; log(0, 11) = 0; log(0, 10) = 2; log(0, 0) = 12
            put(0, 0, 0, 0) = 1; log(0, 11) = 2; log(0, 0) = 13; clientAt(0, 2) = 13
            log(0, 12) = OUTSIDE; log(0, -1) = OUTSIDE; log(0, -2147483648) = OUTSIDE
            log(1, 0) = UNKNOWN; log(-1, 0) = UNKNOWN; log(1, 12) = UNKNOWN
            """);
        Calls.run("5 a client that came for one that went has a log of its own", """
            client(0) = 0; wish(0, 0, 0, 0, 0, 0, 0) = 0; put(0, 0, 0, 0) = 1; log(0, 0) = 0
            part() = 0; client(0) = 0; log(0, 0) = NONE; clientAt(0, 2) = 0
            """);
    }

    private static void promise6() {
        Calls.run("6 wishAt: four kinds", """
            client(0) = 0; client(0) = 1
            wish(1, 0, 7, 1, 4, 2, 6) = 0; wish(0, 3, 5, 3, 0, 3, 9) = 1; wish(0, 1, 0, 2, 9, 0, 9) = 2
            wishAt(0, 0) = 1; wishAt(0, 1) = 0; wishAt(0, 2) = 9; wishAt(0, 3) = 0; wishAt(0, 4) = 4
            wishAt(0, 5) = 6; wishAt(0, 6) = 9; wishAt(0, 7) = 200; wishAt(0, 8) = 2
            wishAt(1, 0) = 0; wishAt(1, 1) = 5; wishAt(1, 2) = 5; wishAt(1, 3) = 0; wishAt(1, 4) = 0
            wishAt(1, 5) = 9; wishAt(1, 6) = 9; wishAt(1, 7) = 1; wishAt(1, 8) = 0
            wishAt(2, 1) = 0; wishAt(2, 2) = 0; wishAt(2, 3) = 9; wishAt(2, 4) = 9; wishAt(2, 5) = 0
            wishAt(2, 6) = 9; wishAt(2, 7) = 10; wishAt(2, 8) = 0
            wish(0, 0, 0, 0, 0, 0, 0) = 3; wish(1, 1, 9, 2, 0, 0, 5) = 4      # two alike, of all
            wishAt(3, 7) = 1000; wishAt(4, 7) = 1000; wishAt(3, 8) = 23; wishAt(4, 8) = 15
            wishAt(5, 0) = UNKNOWN; wishAt(-1, 0) = UNKNOWN; wishAt(5, 9) = UNKNOWN
            wishAt(2147483647, 0) = UNKNOWN; wishAt(-2147483648, 0) = UNKNOWN
            wishAt(0, 9) = OUTSIDE; wishAt(0, -1) = OUTSIDE
            """);
    }

    private static void promise7() {
        Calls.run("7 toldOn: wishes on the one side, covered ones left out, like ones once", """
            broker(0) = 1; broker(1) = 2; client(0) = 0; client(1) = 1; client(2) = 2
            toldOn(0, 1) = 0; toldOn(1, 0) = 0
            wish(0, 1, 4, 0, 0, 0, 0) = 0; toldOn(0, 1) = 1; toldOn(1, 0) = 0; toldOn(1, 2) = 1; toldOn(2, 1) = 0
            wish(2, 1, 4, 0, 0, 0, 0) = 1; toldOn(2, 1) = 1; toldOn(1, 0) = 1
            wish(1, 1, 4, 0, 0, 0, 0) = 2; toldOn(1, 0) = 1; toldOn(1, 2) = 1          # alike
            wish(1, 1, 3, 0, 0, 0, 0) = 3; toldOn(1, 0) = 1                            # covered
            wish(2, 1, 5, 0, 0, 0, 0) = 4; toldOn(2, 1) = 1; box(2, 1, 0, 1) = 5       # covers the first
            box(1, 0, 0, 1) = 5; box(1, 2, 0, 1) = 4
            wish(1, 2, 9, 0, 0, 0, 0) = 5; toldOn(1, 0) = 2; toldOn(1, 2) = 2; toldOn(2, 1) = 1; toldOn(0, 1) = 1
            leave(1) = 1; toldOn(1, 0) = 2                                             # away, still wished
            come(1, 0) = 0; toldOn(1, 0) = 1; toldOn(0, 1) = 2
            drop(4) = 5; box(2, 1, 0, 1) = 4
            part() = 2; toldOn(2, 1) = 0; toldOn(1, 0) = 0; toldOn(1, 2) = 2
            toldOn(0, 2) = UNKNOWN; toldOn(2, 0) = UNKNOWN; toldOn(1, 1) = UNKNOWN; toldOn(0, 0) = UNKNOWN
            toldOn(0, 3) = UNKNOWN; toldOn(3, 0) = UNKNOWN; toldOn(0, -1) = UNKNOWN; toldOn(-1, 0) = UNKNOWN
            toldOn(2147483647, 0) = UNKNOWN; toldOn(0, -2147483648) = UNKNOWN
            """);
    }

    private static void promise8() {
        Calls.run("8 box: in order, with size", """
            broker(0) = 1; client(1) = 0
            wish(0, 3, 5, 0, 0, 0, 0) = 0; wish(0, 3, 2, 3, 8, 0, 0) = 1; wish(0, 3, 2, 3, 3, 3, 4) = 2
            toldOn(1, 0) = 3
            box(1, 0, 0, 0) = 2; box(1, 0, 0, 1) = 2; box(1, 0, 0, 2) = 3; box(1, 0, 0, 3) = 3; box(1, 0, 0, 4) = 4
            box(1, 0, 0, 5) = 4; box(1, 0, 0, 6) = 1; box(1, 0, 0, 7) = 1
            box(1, 0, 1, 0) = 2; box(1, 0, 1, 2) = 8; box(1, 0, 1, 5) = 9; box(1, 0, 1, 6) = 10
            box(1, 0, 2, 0) = 5; box(1, 0, 2, 1) = 5; box(1, 0, 2, 6) = 100
            box(1, 0, 3, 0) = UNKNOWN; box(1, 0, -1, 0) = UNKNOWN; box(1, 0, 3, 8) = UNKNOWN
            box(1, 0, 2147483647, 0) = UNKNOWN; box(1, 0, -2147483648, 0) = UNKNOWN
            box(0, 1, 0, 0) = UNKNOWN; box(0, 0, 0, 0) = UNKNOWN; box(2, 0, 0, 0) = UNKNOWN; box(0, -1, 0, 0) = UNKNOWN
            box(1, 0, 0, 8) = OUTSIDE; box(1, 0, 0, -1) = OUTSIDE
            """);
        Calls.run("8 each bound in its turn tells the order", """
            broker(0) = 1; client(1) = 0
            wish(0, 1, 3, 3, 5, 3, 5) = 0; wish(0, 1, 2, 3, 5, 2, 5) = 1; wish(0, 1, 2, 1, 4, 3, 5) = 2
            wish(0, 1, 2, 1, 3, 3, 7) = 3; wish(0, 1, 2, 1, 3, 1, 6) = 4
            toldOn(1, 0) = 5
            box(1, 0, 0, 3) = 3; box(1, 0, 0, 4) = 0; box(1, 0, 1, 3) = 3; box(1, 0, 1, 4) = 7
            box(1, 0, 2, 3) = 4; box(1, 0, 3, 2) = 5; box(1, 0, 3, 1) = 2; box(1, 0, 4, 1) = 3
            """);
        Calls.run("8 a joined box is wished, if any wish has it", """
            broker(0) = 1; client(1) = 0; client(0) = 1
            wish(0, 3, 0, 3, 0, 3, 0) = 0; wish(0, 3, 9, 3, 9, 3, 9) = 1; most(1) = 9
            toldOn(1, 0) = 1; box(1, 0, 0, 6) = 1000; box(1, 0, 0, 7) = 0
            wish(1, 0, 0, 0, 0, 0, 0) = 2; box(1, 0, 0, 7) = 1
            """);
    }

    private static void joins() {
        Calls.run("section 2: the pair of least waste", """
            broker(0) = 1; client(1) = 0
            wish(0, 3, 1, 3, 1, 3, 1) = 0; wish(0, 3, 9, 3, 9, 3, 9) = 1; wish(0, 3, 1, 3, 1, 3, 2) = 2
            toldOn(1, 0) = 3; most(3) = 9; toldOn(1, 0) = 3
            most(2) = 3; toldOn(1, 0) = 2; box(1, 0, 0, 4) = 1; box(1, 0, 0, 5) = 2; box(1, 0, 0, 7) = 0
            box(1, 0, 1, 0) = 9; box(1, 0, 1, 7) = 1
            most(1) = 2; toldOn(1, 0) = 1; box(1, 0, 0, 0) = 1; box(1, 0, 0, 1) = 9; box(1, 0, 0, 6) = 729
            """);
        Calls.run("section 2: of like pairs the one whose first box is first", """
            broker(0) = 1; client(1) = 0; most(2) = 9
            wish(0, 3, 0, 3, 0, 3, 4) = 0; wish(0, 3, 0, 3, 0, 3, 2) = 1; wish(0, 3, 0, 3, 0, 3, 0) = 2
            toldOn(1, 0) = 2; box(1, 0, 0, 5) = 2; box(1, 0, 1, 4) = 4
            """);
        Calls.run("section 2: then whose second box is first", """
            broker(0) = 1; client(1) = 0; most(2) = 9
            wish(0, 3, 0, 3, 2, 3, 0) = 0; wish(0, 3, 0, 3, 0, 3, 2) = 1; wish(0, 3, 0, 3, 0, 3, 0) = 2
            toldOn(1, 0) = 2; box(1, 0, 0, 3) = 0; box(1, 0, 0, 5) = 2; box(1, 0, 1, 2) = 2
            """);
        Calls.run("section 2: a notice that fits both boxes is counted once", """
            broker(0) = 1; client(1) = 0; most(3) = 9
            wish(0, 1, 5, 0, 0, 0, 0) = 0; wish(0, 0, 0, 1, 5, 0, 0) = 1
            wish(0, 3, 9, 3, 9, 0, 0) = 2; wish(0, 3, 9, 3, 7, 0, 0) = 3
            toldOn(1, 0) = 3; box(1, 0, 0, 6) = 600; box(1, 0, 1, 6) = 600; box(1, 0, 2, 6) = 30
            """);
        Calls.run("section 2: all that the joined one covers go", """
            broker(0) = 1; client(1) = 0; most(2) = 9
            wish(0, 1, 8, 1, 8, 1, 8) = 0; wish(0, 2, 1, 2, 1, 2, 1) = 1; toldOn(1, 0) = 2
            wish(0, 3, 0, 3, 9, 3, 0) = 2; toldOn(1, 0) = 1; box(1, 0, 0, 6) = 1000
            """);
        Calls.run("section 2: joined ones are told on further, joined again with others", """
            broker(0) = 1; broker(1) = 2; client(2) = 0; client(1) = 1; most(1) = 9
            wish(0, 3, 0, 3, 0, 3, 0) = 0; wish(0, 3, 0, 3, 0, 3, 3) = 1; wish(1, 3, 0, 3, 2, 3, 1) = 2
            box(2, 1, 0, 6) = 4; toldOn(1, 0) = 1; box(1, 0, 0, 6) = 12; box(1, 2, 0, 6) = 1; told(5) = 3
            """);
    }

    private static void promise9() {
        Calls.run("9 would", """
            broker(0) = 1; broker(1) = 2; broker(0) = 3; client(2) = 0; client(3) = 1; client(3) = 2; client(0) = 3
            wish(0, 3, 0, 3, 0, 3, 0) = 0; wish(0, 3, 0, 3, 0, 3, 9) = 1; wish(1, 0, 0, 0, 0, 2, 5) = 2
            wish(2, 3, 0, 3, 0, 3, 9) = 3; most(1) = 9
            would(0, 0, 0, 9, 0) = 15; would(0, 0, 0, 9, 1) = 7; would(0, 0, 0, 9, 2) = 0; would(0, 0, 0, 9, 3) = 3
            would(0, 0, 0, 4, 0) = 7; would(0, 0, 0, 4, 1) = 0; would(0, 0, 0, 4, 2) = 4; would(0, 0, 0, 4, 3) = 2
            would(2, 0, 0, 4, 0) = 4; would(2, 0, 0, 4, 1) = 0; would(2, 0, 0, 4, 2) = 0; would(2, 0, 0, 4, 3) = 0
            would(3, 0, 0, 6, 0) = 15; would(3, 0, 0, 6, 1) = 2; would(3, 0, 0, 6, 2) = 4; would(3, 0, 0, 6, 3) = 3
            would(2, 1, 1, 6, 0) = 15; would(2, 1, 1, 6, 1) = 2; would(2, 1, 1, 6, 2) = 0; would(2, 1, 1, 6, 3) = 3
            leave(1) = 3; would(2, 1, 1, 6, 1) = 2
            told(4) = 0; told(6) = 0; told(7) = 0; clientAt(0, 2) = 0; clientAt(1, 3) = 0       # nothing changes
            told(10) = 13
            would(4, 0, 0, 0, 0) = UNKNOWN; would(-1, 0, 0, 0, 0) = UNKNOWN; would(4, 10, 0, 0, 0) = UNKNOWN
            would(0, 10, 0, 0, 0) = OUTSIDE; would(0, 0, 10, 0, 0) = OUTSIDE; would(0, 0, 0, 10, 0) = OUTSIDE
            would(0, -1, 0, 0, 0) = OUTSIDE; would(0, 0, -1, 0, 0) = OUTSIDE; would(0, 0, 0, -1, 0) = OUTSIDE
            would(0, 0, 0, 0, 4) = OUTSIDE; would(0, 0, 0, 0, -1) = OUTSIDE
            """);
    }
}
