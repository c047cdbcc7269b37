/** Promises 21 to 25: the book, the seed, the images. */
public final class BookAndImagesTest {
    public static void main(String[] args) {
        promises21And22();
        promise23();
        promises24And25();
        Check.end();
    }

    private static void promises21And22() {
        Calls.run("21, 22 write and tear", """
            write(0, 0) = UNKNOWN; tear() = 0; client(0) = 0; wish(0, 0, 0, 0, 0, 0, 0) = 0
            write(0, 0) = 1; write(1, 0) = UNKNOWN; write(-1, 0) = UNKNOWN; write(2147483647, 0) = UNKNOWN
            told(8) = 1; told(9) = NONE; told(10) = 2
            write(0, -2147483648) = 2; told(9) = 1; write(0, 2147483647) = 3; told(9) = 1
            put(0, 0, 0, 0) = 1; told(9) = 0; undo(1) = 2; told(9) = 1
            tear() = 3; told(8) = 0; told(9) = NONE; tear() = 0
            write(0, 0) = 1; write(0, 0) = 2; write(0, 0) = 3; write(0, 0) = 4; write(0, 0) = 5; write(0, 0) = 6
            write(0, 0) = 7; write(0, 0) = 8; write(0, 0) = 9; write(0, 0) = 10; write(0, 0) = 11; write(0, 0) = 12
            write(0, 0) = 13; write(0, 0) = 14; write(0, 0) = 15; write(0, 0) = 16; write(0, 0) = 17
            write(0, 0) = 18; write(0, 0) = 19; told(9) = NONE; write(0, 1) = 20; told(9) = 19
            write(0, 0) = FULL; write(1, 0) = UNKNOWN; told(8) = 20; told(10) = 2
            tear() = 20; write(0, 7) = 1; told(9) = 0
            """);
        Calls.run("21 kept ones are not had", """
            client(0) = 0; wish(0, 0, 0, 0, 0, 0, 0) = 0; write(0, 0) = 1; leave(0) = 0; put(0, 0, 0, 0) = 1
            told(9) = NONE; come(0, 0) = 1; told(9) = 0
            """);
    }

    private static void promise23() {
        Calls.run("23 seed", """
            seed(2147483647) = 0; seed(0) = 2147483647; seed(-1) = OUTSIDE; seed(-2147483648) = OUTSIDE
            told(11) = 0; seed(9) = 0; told(11) = 9; told(10) = 0
            """);
    }

    private static void promises24And25() {
        Calls.run("24, 25 refusals", """
            keep(2) = UNKNOWN; keep(-1) = UNKNOWN; keep(2147483647) = UNKNOWN; keep(-2147483648) = UNKNOWN
            goBack(2) = UNKNOWN; goBack(-1) = UNKNOWN; goBack(2147483647) = UNKNOWN; goBack(-2147483648) = UNKNOWN
            goBack(0) = NOT; goBack(1) = NOT; client(0) = 0; keep(2) = UNKNOWN; goBack(1) = NOT; told(10) = 1
            keep(1) = 1; goBack(0) = NOT; goBack(1) = 1
            """);
        Calls.run("24, 25 two images, each with its seed", """
            broker(0) = 1; client(1) = 0; wish(0, 0, 0, 0, 0, 0, 0) = 0; seed(5) = 0; most(3) = 9
            put(0, 0, 0, 0) = 1; told(10) = 5; keep(0) = 1; told(10) = 0; undo(1) = NOT
            client(0) = 1; leave(0) = 1; drift(2) = 3; broker(1) = 2; most(4) = 3; seed(6) = 1551051453; told(10) = 6
            keep(1) = 1; told(10) = 0; part() = 1; part() = 0; told(10) = 2
            goBack(0) = 1; told(10) = 0; undo(1) = NOT
            told(0) = 2; told(1) = 1; told(2) = 1; told(3) = 3; told(4) = 1; told(5) = 1; told(6) = 1; told(11) = 5
            clientAt(0, 0) = 1; clientAt(0, 1) = 1; clientAt(0, 2) = 1; clientAt(0, 3) = 0; log(0, 0) = 0
            drop(0) = 0; goBack(1) = 1; told(0) = 3; told(1) = 2; told(2) = 1; told(3) = 4; told(4) = 3; told(11) = 6
            clientAt(0, 1) = 0; clientAt(0, 3) = 2; toldOn(1, 2) = 1; come(0, 2) = 2; log(0, 0) = 2; told(10) = 1
            goBack(0) = 1; goBack(0) = 1; told(4) = 1; told(2) = 1
            """);
        Calls.run("24 an image is kept anew, and does not follow what comes", """
            client(0) = 0; wish(0, 0, 0, 0, 0, 0, 0) = 0; keep(0) = 1; put(0, 0, 0, 0) = 1; keep(0) = 1
            put(0, 0, 0, 0) = 1; goBack(0) = 1; told(4) = 1; clientAt(0, 2) = 1; put(0, 0, 0, 0) = 1; log(0, 0) = 1
            goBack(0) = 1; clientAt(0, 2) = 1; log(0, 0) = 0; log(0, 1) = NONE
            """);
        Calls.run("25 the book stays", """
            client(0) = 0; wish(0, 0, 0, 0, 0, 0, 0) = 0; write(0, 0) = 1; keep(0) = 1
            put(0, 0, 0, 0) = 1; write(0, 1) = 2; told(9) = 0; goBack(0) = 1; told(8) = 2; told(9) = 1
            """);
        Calls.run("25 vain and links come back", """
            broker(0) = 1; client(1) = 0; most(1) = 9; wish(0, 3, 0, 3, 0, 3, 0) = 0; wish(0, 3, 9, 3, 9, 3, 9) = 1
            put(0, 5, 5, 5) = 0; keep(1) = 1; put(0, 5, 5, 5) = 0; told(6) = 2; told(7) = 2
            goBack(1) = 1; told(6) = 1; told(7) = 1; toldOn(1, 0) = 1
            """);
        Calls.run("25 brokers and what is told on come back", """
            broker(0) = 1; broker(1) = 2; client(2) = 0; wish(0, 3, 4, 0, 0, 0, 0) = 0; keep(0) = 1
            drop(0) = 0; toldOn(2, 1) = 0; goBack(0) = 1; toldOn(2, 1) = 1; box(1, 0, 0, 0) = 4
            part() = 0; told(5) = 0; goBack(0) = 1; told(5) = 2
            """);
        Calls.run("25 another tree comes back", """
            broker(0) = 1; keep(1) = 1; broker(1) = 2; keep(0) = 1; goBack(1) = 1; broker(0) = 2; brokerAt(2, 0) = 0
            goBack(0) = 1; brokerAt(2, 0) = 1; brokerAt(0, 1) = 2; toldOn(2, 1) = 0; toldOn(2, 0) = UNKNOWN
            """);
    }
}
