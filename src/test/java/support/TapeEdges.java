/** Promises 7 to 10: feed, end, row, rubble. */
final class TapeEdges {
    /** Four stones of one cell: at 0, 2, 4, 6 on the ground, of weights 1 to 4. */
    private static final String FOUR = "feed(0x00000101, 0x01020001, 0x01020400, 0x01010306, 0x00010104)";
    private static final String ZEROS = "feed(0, 0, 0, 0, 0)";

    private TapeEdges() {
    }

    static void run(Edges e) {
        feed(e);
        end(e);
        row(e);
        rubble(e);
    }

    private static String zeros(int from, int to) {
        StringBuilder run = new StringBuilder();
        for (int i = from; i <= to; i += 20) {
            run.append(ZEROS + " = " + i + "\n");
        }
        return run.toString();
    }

    /** A stone of one cell for each place, in the lowest courses from the left, as bytes. */
    private static String cells(int many) {
        StringBuilder text = new StringBuilder();
        for (int i = 0; i < many; i++) {
            text.append(String.format("%%%02x%%%02x%%01%%01%%01", i % 12, i / 12));
        }
        return text.toString();
    }

    private static void feed(Edges e) {
        e.on(7, "Twenty bytes come behind the TAPE, four of each number, the highest first: how many it has.",
            "count(4) = 0 | " + FOUR + " = 20 | count(4) = 20", """
            row() = 4 | rubble() = 0 | of(0, 0) = 0 | of(0, 4) = 1 | of(1, 0) = 2 | of(1, 4) = 2 | of(2, 0) = 4
            of(2, 4) = 3 | of(3, 0) = 6 | of(3, 4) = 4 | of(3, 1) = 0 | of(3, 2) = 1 | of(3, 3) = 1 | count(4) = 0
            """);
        e.on(7, "Twenty bytes come behind the TAPE", ZEROS + " = 20 | end(5) = 5 // what was cut off is gone",
            FOUR + " = 25 | row() = 4 | rubble() = 1 | of(0, 0) = 0 | of(3, 4) = 4");
        e.on(7, "four of each number, the highest first", """
            feed(0x03020601, 0x7f030206, 0x01800302, 0x0601ff03, 0x02060163) = 20 // weights 127, 128, 255, 99
            row() = 1 | rubble() = 3 | of(0, 0) = 3 | of(0, 1) = 2 | of(0, 2) = 6 | of(0, 3) = 1 | of(0, 4) = 99
            """);
        e.on(7, "four of each number, the highest first", """
            feed(0x80000101, 0x01ff0001, 0x01010080, 0x01010100, 0xff010101) = 20 // x 128 and 255, y 128 and 255
            row() = 0 | rubble() = 4 | feed(-1, -1, -1, -1, -1) = 20 | feed(MIN, MIN, MIN, MAX, MAX) = 40
            row() = 0 | rubble() = 8
            """);
        e.on(7, "NONE, if there would be more than 400.", zeros(20, 380), ZEROS + " = 400 | " + ZEROS + " = -1", """
            count(4) = 400 | count(5) = 0 | status() = 0 | end(399) = 399 | feed(0, 0, 0, 0, 0) = -1
            end(381) = 381 | feed(0, 0, 0, 0, 0) = -1 | count(4) = 381 | end(380) = 380 | feed(0, 0, 0, 0, 0) = 400
            end(379) = 379 | feed(0, 0, 0, 0, 0) = 399 | feed(0, 0, 0, 0, 0) = -1 | count(4) = 399
            """);
        e.on(7, "NONE, if there would be more than 400.", FOUR + " = 20", zeros(40, 400), "end(381) = 381",
            "feed(-1, -1, -1, -1, -1) = -1 | row() = 4 | rubble() = 73 // as it was");
    }

    private static void end(Edges e) {
        e.on(8, "The TAPE has its first n bytes alone: n.", FOUR + " = 20", """
            end(20) = 20 | count(4) = 20 | end(19) = 19 | count(4) = 19 | end(20) = -1 | count(4) = 19 | end(10) = 10
            row() = 2 | rubble() = 0 | of(0, 4) = 1 | of(1, 4) = 2 | count(4) = 0
            """);
        e.on(8, "NONE, if it has not so many, or n is below 0.", "end(1) = -1 | end(0) = 0 | end(-1) = -1",
            FOUR + " = 20", """
            end(21) = -1 | end(-1) = -1 | end(MIN) = -1 | end(MAX) = -1 | count(4) = 20 | end(20) = 20
            end(1) = 1 | end(2) = -1 | end(0) = 0 | end(1) = -1 | count(4) = 0 | count(5) = 0 | status() = 0
            """);
        // What is cut off must not be read, though it would go on with what is left.
        e.on(8, "The TAPE has its first n bytes alone: n.", """
            fed{boundary} = 8
            end(5) = 5 | law() = 0
            fed{needs 12} = 8
            end(7) = 7 | law() = 1 | force(1) = -1 | stone(0, 0, 1, 1, 1) = 0 | touches(0, 0) = 1
            fed{needs 7} = 7
            end(6) = 6 | law() = -6 | fault() = 6
            fed{needs x} = 7
            end(6) = 6 | law() = -6 | fault() = 6
            fed{needs 7} = 7
            end(5) = 5 | law() = -6 | fault() = 5
            fed{bound;bound} = 11
            end(6) = 6 | law() = -6 | fault() = 6
            fed{bound if x=1 or x=1} = 19
            end(12) = 12 | law() = 2
            fed{bound} = 5
            end(0) = 0 | law() = -6 | fault() = 0
            """);
        e.on(8, "NONE, if it has not so many, or n is below 0.", zeros(20, 400),
            "end(401) = -1 | end(400) = 400 | end(399) = 399 | end(400) = -1");
    }

    private static void row(Edges e) {
        e.on(9, "-6 the TAPE is empty.", "row() = -6 | status() = -6 | count(9) = 1 | " + FOUR + " = 20 | end(0) = 0",
            """
            row() = -6 | count(9) = 2 | count(0) = 0 | feed(0, 0, 0, 0, 0) = 20 | end(1) = 1
            row() = 0 | status() = 0 | count(9) = 2 | row() = -6 | status() = -6 | count(9) = 3
            """);
        e.on(9, "A ROW, the TAPE is empty then: how many came.", FOUR + " = 20",
            "row() = 4 | count(4) = 0 | count(0) = 4 | there() = 0b1111 | status() = 0",
            FOUR + " = 20 | row() = 0 | count(4) = 0 | count(0) = 4 | status() = 0 // there is a stone in each place",
            "count(5) = 0 | count(7) = 0 | count(8) = 0");
        e.on(9, "x, y, WIDE, TALL, WEIGHT (FARM, FROST 0)", """
            feed(0x05020306, 0x63000000, 0, 0, 0) = 20 | end(5) = 5 | row() = 1 | of(0, 0) = 5 | of(0, 1) = 2
            of(0, 2) = 3 | of(0, 3) = 6 | of(0, 4) = 99 | of(0, 5) = 0 | of(0, 6) = 0 | of(0, 7) = 1
            """);
        for (int bytes = 1; bytes <= 11; bytes++) {
            e.on(9, "one within which the TAPE ends", FOUR + " = 20 | end(" + bytes + ") = " + bytes,
                "row() = " + bytes / 5 + " | rubble() = " + (bytes % 5 == 0 ? 0 : 1));
        }
        String[] cant = {"0c00010101", "0008010101", "0000000101", "0000070101", "0000010001", "0000010701",
            "0000010100", "0000010164", "0b00020101", "0700060101", "0007010201", "0003010601", "0600010101"};
        for (String five : cant) {
            String can = "%01%01%01%01%63";
            String text = five.replaceAll("(..)", "%$1");
            e.on(9, "one that can't be", "stone(5, 0, 2, 1, 1) = 0", "fed{" + can + text + "} = 10",
                "row() = 1 | rubble() = 1 | of(1, 0) = 1 | of(1, 1) = 1 | of(1, 4) = 99 | of(2, 0) = -1");
        }
        String[] can = {"0b00010101", "0007010101", "0000010101", "0000060101", "0001010601", "0000010163",
            "0a00020101", "0606060101", "0006010201", "0002010601", "0700010101"};
        for (String five : can) {
            e.on(9, "one that can't be", "stone(6, 0, 1, 1, 1) = 0", "fed{" + five.replaceAll("(..)", "%$1") + "} = 5",
                "row() = 1 | rubble() = 0");
        }
        e.on(9, "one that can't be", "fed{%00%00%02%01%01%01%00%01%01%01%02%00%01%01%01} = 15",
            "row() = 2 | rubble() = 1 | at(1, 0) = 0 | at(2, 0) = 1 // the second is on the first");
        e.on(9, "one that can't be", "spare(0, 0, 1, 1, 1) = 0 | stone(1, 0, 1, 1, 1) = 0 | stand(0) = 1",
            "fed{" + cells(3) + "} = 15", "row() = 1 | rubble() = 2 | at(2, 0) = 1 | there() = 2");
        e.on(9, "A ROW, the TAPE is empty then: how many came.", """
            terms(0, 0) = 5 | once(3) = 0 | unlawful() = -1 | gate(0, 0, 11, 7, 0) = 0
            fed{%00%00%01%01%01%01%00%01%01%01} = 10
            row() = 2 | once(3) = 3 | fell(0) = 2 | game(2) = 2 | touches(0, 3) = 2 // asked anew
            terms(0, 9) = 0 | unlawful() = 0
            """);
        e.on(9, "one for which there is no room is RUBBLE: none.", StoneEdges.some(13), """
            fed{%09%05%01%01%01%0a%05%01%01%01} = 10
            row() = 1 | rubble() = 1 | count(0) = 14 | at(9, 5) = 13 | at(10, 5) = -1 | status() = 0 | count(8) = 0
            fed{%0a%05%01%01%01} = 5
            row() = 0 | rubble() = 1 | status() = 0 | count(4) = 0
            """);
        e.on(9, "one for which there is no room is RUBBLE: none.", "fed{" + cells(80) + "} = 400",
            "row() = 14 | rubble() = 66 | count(0) = 14 | there() = 16383 | count(4) = 0 | at(1, 1) = 13",
            "at(2, 1) = -1");
    }

    private static void rubble(Edges e) {
        e.on(10, "How many were RUBBLE in the latest row() that was not REFUSED (0 ahead of any).",
            "rubble() = 0 | row() = -6 | rubble() = 0 | " + FOUR + " = 20 | end(9) = 9", """
            rubble() = 0 | row() = 1 | rubble() = 1 | row() = -6 | rubble() = 1
            feed(0, 0, 0, 0, 0) = 20 | row() = 0 | rubble() = 4
            feed(0x05050101, 0x01000000, 0, 0, 0) = 20 | rubble() = 4 | end(5) = 5 | row() = 1 | rubble() = 0
            """);
        e.on(10, "How many were RUBBLE in the latest row()", "stone(0, 0, 1, 1, 0) = -1 | rubble() = 0 // not a row's",
            "fed{x} = 1", "law() = -6 | rubble() = 0");
    }
}
