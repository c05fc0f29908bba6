/** Promises 15, 16, 19 to 22, 27: touches, unlawful, falls, round, take, farm, gate. */
final class FallEdges {
    /** A chain in the air from the bound stone 0 to 4, of weights 1 to 16; each but the last needs two. */
    private static final String CHAIN = """
        stone(3, 3, 1, 1, 1) = 0 | stone(4, 3, 1, 1, 2) = 1 | stone(5, 3, 1, 1, 4) = 2 | stone(6, 3, 1, 1, 8) = 3
        stone(7, 3, 1, 1, 16) = 4
        law{needs 2;needs 1 if stone=4;bound if stone=0} = 0
        force(0) = -1 | unlawful() = -1 | there() = 31
        """;

    private FallEdges() {
    }

    static void run(Edges e) {
        sides(e);
        held(e);
        touches(e);
        unlawful(e);
        falls(e);
        round(e);
        take(e);
        farm(e);
        gate(e);
    }

    /** As long a chain as there can be: along a course, then two up. */
    private static String longChain() {
        StringBuilder run = new StringBuilder("terms(2, 0) = 1\n");
        for (int i = 0; i < 14; i++) {
            run.append("stone(" + Math.min(i, 11) + ", " + (3 + Math.max(0, i - 11)) + ", 1, 1, 99) = " + i + "\n");
        }
        return run + "law{needs 2;needs 1 if stone=13;bound if stone=0} = 0\nforce(0) = -1 | unlawful() = -1\n";
    }

    private static void sides(Edges e) {
        String side = "how many others that are there have a side of a CELL in common with it";
        int[][] corners = {{3, 2}, {7, 2}, {3, 5}, {7, 5}, {2, 3}, {8, 4}, {4, 1}, {6, 6}};
        for (int[] c : corners) {
            e.on(15, side, "stone(4, 3, 3, 2, 1) = 0 | touches(0, 1) = 0",
                "stone(" + c[0] + ", " + c[1] + ", 1, 1, 1) = 1",
                "touches(0, 1) = 0 | touches(0, 3) = 0 | touches(1, 1) = 0 | touches(1, 3) = 0");
        }
        int[][] besides = {{3, 3}, {3, 4}, {7, 3}, {7, 4}, {4, 2}, {6, 2}, {4, 5}, {6, 5}};
        for (int[] b : besides) {
            e.on(15, side, "stone(4, 3, 3, 2, 1) = 0 | touches(0, 1) = 0",
                "stone(" + b[0] + ", " + b[1] + ", 1, 1, 1) = 1",
                "touches(0, 1) = 1 | touches(0, 3) = 2 | touches(1, 1) = 1 | touches(1, 3) = 1");
        }
        e.on(15, side, """
            stone(4, 3, 3, 2, 1) = 0 | stone(2, 5, 6, 1, 1) = 1 | touches(0, 1) = 1 // by three cells it is one
            stone(3, 1, 1, 4, 1) = 2 | touches(0, 1) = 2 | stone(7, 2, 2, 2, 1) = 3 | touches(0, 1) = 3
            stone(4, 2, 1, 1, 1) = 4 | stone(5, 2, 1, 1, 1) = 5 | stone(6, 2, 1, 1, 1) = 6 | touches(0, 1) = 6
            touches(0, 3) = 0b1111110 | stand(0b1010101) = 127 | touches(0, 1) = 3 | touches(0, 3) = 0b1010100
            stand(1) = 85 | touches(0, 1) = 0 | stand(0) = 1 | touches(0, 1) = -1 | touches(0, 3) = 0
            """);
        e.on(15, side, "stone(4, 3, 3, 2, 1) = 0 | spare(3, 3, 1, 1, 1) = 0 | touches(0, 1) = 0 | touches(0, 3) = 0");
    }

    private static void held(Edges e) {
        e.on(15, "GROUND more if it is on the GROUND", """
            stone(3, 0, 1, 1, 1) = 0 | stone(5, 1, 1, 1, 1) = 1 | stone(7, 0, 1, 6, 1) = 2 | stone(9, 7, 1, 1, 1) = 3
            touches(0, 1) = 2 | touches(1, 1) = 0 | touches(2, 1) = 2 | touches(3, 1) = 0 | terms(1, 0) = 2
            touches(0, 1) = 0 | touches(1, 1) = 0 | terms(1, 9) = 0 | touches(0, 1) = 9 | touches(1, 1) = 0
            """);
        e.on(15, "SIDE more for each side of the GRID (x 0, x 11) where it is", """
            stone(0, 3, 1, 1, 1) = 0 | stone(1, 5, 1, 1, 1) = 1 | stone(11, 3, 1, 1, 1) = 2
            stone(10, 5, 1, 1, 1) = 3 | stone(5, 1, 6, 1, 1) = 4 | stone(6, 7, 6, 1, 1) = 5 | stone(0, 7, 6, 1, 1) = 6
            touches(0, 1) = 1 | touches(1, 1) = 0 | touches(2, 1) = 1 | touches(3, 1) = 0 | touches(4, 1) = 0
            touches(5, 1) = 2 | touches(6, 1) = 2 // these two lie side by side
            terms(2, 9) = 1 | touches(0, 1) = 9 | touches(1, 1) = 0 | touches(2, 1) = 9 | touches(3, 1) = 0
            terms(2, 0) = 9 | touches(0, 1) = 0 | touches(2, 1) = 0
            """);
        e.on(15, "SIDE more for each side of the GRID (x 0, x 11) where it is",
            "stone(0, 0, 1, 1, 1) = 0 | stone(11, 0, 1, 1, 1) = 1 | touches(0, 1) = 3",
            "touches(1, 1) = 3 // the ground, too",
            "terms(1, 9) = 2 | terms(2, 9) = 1 | touches(0, 1) = 18");
    }

    private static void touches(Edges e) {
        e.on(15, "its TOUCHES (1; NONE: it is away)",
            "stone(3, 0, 1, 1, 1) = 0 | touches(0, 1) = 2 | stand(0) = 1 | touches(0, 1) = -1",
            "touches(0, 0) = 5 | touches(0, 2) = 0 | stand(1) = 0 | touches(0, 1) = 2");
        e.on(15, "the STONES that are there and that it touches, as bits (3; away, too)", """
            stone(3, 0, 1, 1, 1) = 0 | stone(4, 0, 1, 1, 1) = 1 | stone(5, 0, 1, 1, 1) = 2 | touches(1, 3) = 0b101
            stand(0b101) = 7 | touches(1, 3) = 0b101 | touches(0, 3) = 0 | stand(0b100) = 5 | touches(1, 3) = 0b100
            stand(0) = 4 | touches(1, 3) = 0
            """);
        e.on(15, "Of a STONE what it NEEDS (what 0)", """
            touches(0, 0) = -1 | stone(3, 0, 1, 1, 1) = 0 | touches(0, 0) = 5 | touches(1, 0) = -1
            touches(-1, 0) = -1 | touches(0, -1) = -1 | touches(0, 3) = 0 | touches(0, 4) = -1 | touches(0, MIN) = -1
            touches(0, MAX) = -1 | touches(MIN, 0) = -1 | touches(MAX, 0) = -1 | touches(32, 1) = -1
            touches(13, 3) = -1 | spare(4, 0, 1, 1, 1) = 0 | touches(14, 0) = -1 | touches(14, 3) = -1 | count(5) = 0
            status() = 0
            """);
        e.on(15, "Of a STONE what it NEEDS (what 0)", StoneEdges.fourteen(), StoneEdges.someSpares(1),
            "touches(13, 0) = 5 | touches(13, 1) = 2 | touches(13, 3) = 0b1000001000000 | touches(14, 0) = -1",
            "touches(14, 1) = -1");
    }

    private static void unlawful(Edges e) {
        e.on(16, "It STANDS, if TOUCHES are not fewer than it NEEDS, or it is BOUND.", """
            stone(3, 0, 1, 1, 1) = 0 | terms(0, 1) = 5 | unlawful() = -1 | terms(0, 2) = 1 | unlawful() = -1
            terms(0, 3) = 2 | unlawful() = 0
            law{bound} = 0
            force(0) = -1 | unlawful() = -1 | force(-1) = 0 | unlawful() = 0 | terms(1, 3) = 2 | unlawful() = -1
            """);
        e.on(16, "It STANDS, if TOUCHES are not fewer than it NEEDS, or it is BOUND.",
            "terms(0, 0) = 5 | stone(5, 5, 1, 1, 1) = 0 | unlawful() = -1 | terms(0, 1) = 0 | unlawful() = 0");
        e.on(16, "The first STONE that is there and does not STAND. NONE.", """
            unlawful() = -1 | stone(3, 0, 1, 1, 1) = 0 | stone(5, 5, 1, 1, 1) = 1 | stone(7, 5, 1, 1, 1) = 2
            terms(0, 2) = 5 | unlawful() = 1 | stand(0b101) = 7 | unlawful() = 2 | stand(1) = 5 | unlawful() = -1
            terms(0, 3) = 2 | unlawful() = 0 | stand(0b110) = 1 | unlawful() = 1 | stand(0) = 6 | unlawful() = -1
            """);
        e.on(16, "The first STONE that is there and does not STAND. NONE.", StoneEdges.fourteen(),
            "law{needs 0;needs 12 if stone=13} = 0",
            "force(0) = -1 | unlawful() = 13 | stand(8191) = 16383 | unlawful() = -1");
        e.on(16, "The first STONE that is there and does not STAND. NONE.",
            "spare(5, 5, 1, 1, 1) = 0 | unlawful() = -1",
            "terms(0, 2) = 5 | stone(3, 0, 1, 1, 1) = 0 | unlawful() = -1 // a spare one does not count");
    }

    private static void falls(Edges e) {
        String asked =
            "how many fall (what 0), in how many ROUNDS (1), what is there then as bits (2), WEIGHT that falls (3)";
        e.on(19, asked, CHAIN, """
            falls(0, 0) = 0 | falls(0, 1) = 0 | falls(0, 2) = 31 | falls(0, 3) = 0
            falls(0b00100, 0) = 3 | falls(0b00100, 1) = 2 | falls(0b00100, 2) = 1 | falls(0b00100, 3) = 26
            falls(0b10000, 0) = 3 | falls(0b10000, 1) = 3 | falls(0b10000, 2) = 1 | falls(0b10000, 3) = 14
            falls(0b00001, 0) = 4 | falls(0b00001, 1) = 4 | falls(0b00001, 2) = 0 | falls(0b00001, 3) = 30
            falls(0b11110, 0) = 0 | falls(0b11110, 1) = 0 | falls(0b11110, 2) = 1 | falls(0b11110, 3) = 0
            falls(0b11111, 0) = 0 | falls(0b11111, 1) = 0 | falls(0b11111, 2) = 0 | falls(0b11111, 3) = 0
            falls(0b11100, 0) = 1 | falls(0b11100, 1) = 1 | falls(0b11100, 2) = 1 | falls(0b11100, 3) = 2
            there() = 31 | falls(0, -1) = -1 | falls(0, 4) = -1 | falls(0, MIN) = -1 | falls(0, MAX) = -1
            """);
        e.on(19, "NONE (one is away, too).", CHAIN, """
            falls(0b100000, 0) = -1 | falls(0b100001, 0) = -1 | falls(-1, 0) = -1 | falls(MIN, 2) = -1
            falls(MAX, 2) = -1 | stand(0b11101) = 31 | falls(0b00010, 0) = -1 | falls(0b00011, 2) = -1
            falls(0b00001, 0) = 3 | falls(0b11101, 0) = 0 | falls(0b11111, 0) = -1 | stand(0) = 29 | falls(1, 0) = -1
            falls(0, 0) = 0 | count(5) = 0 | status() = 0
            """);
        e.on(19, "NONE (one is away, too).", StoneEdges.fourteen(), StoneEdges.someSpares(1),
            "terms(0, 0) = 5 | falls(16383, 2) = 0 | falls(16384, 2) = -1 | falls(8192, 2) = 8191");
        e.on(19, "ROUND by ROUND all that do not STAND as it is then are away; till all STAND.", longChain(), """
            falls(1, 0) = 13 | falls(1, 1) = 13 | falls(1, 2) = 0 | falls(1, 3) = 1287
            falls(0b10000000000000, 0) = 12 | falls(0b10000000000000, 1) = 12 | falls(0b10000000000000, 2) = 1
            round(1, 1) = 1 | round(1, 12) = 12 | round(1, 13) = 13 | round(1, 0) = 0
            take(1) = 14 | there() = 0
            """);
        e.on(19, "ROUND by ROUND all that do not STAND as it is then are away; till all STAND.", """
            terms(0, 1) = 5 | stone(3, 3, 1, 1, 1) = 0 | stone(4, 3, 1, 1, 1) = 1 | stone(5, 3, 1, 1, 1) = 2
            falls(0b010, 1) = 1 | falls(0b010, 0) = 2 | falls(0b001, 1) = 0 | falls(0b001, 2) = 0b110
            terms(0, 2) = 1 | falls(0, 0) = 3 | falls(0, 1) = 2 | round(0, 0) = 1 | round(0, 1) = 2 | round(0, 2) = 1
            terms(0, 3) = 2 | falls(0, 1) = 1 // all at once
            """);
    }

    private static void round(Edges e) {
        e.on(20, "In which ROUND (1 ..) a STONE falls, if some are TAKEN on paper (0: it is TAKEN).", CHAIN, """
            round(0b00100, 0) = -1 | round(0b00100, 1) = 1 | round(0b00100, 2) = 0 | round(0b00100, 3) = 1
            round(0b00100, 4) = 2 | round(0b00001, 4) = 4 | round(0b00001, 0) = 0 | round(0b11111, 4) = 0
            round(0, 0) = -1 | round(0, 4) = -1 | there() = 31
            """);
        e.on(20, "In which ROUND (1 ..) a STONE falls",
            "stone(3, 3, 1, 1, 1) = 0 | round(0, 0) = 1 | terms(0, 0) = 5 | round(0, 0) = -1",
            "terms(0, 1) = 0 | round(0, 0) = 1 | stone(4, 3, 1, 1, 1) = 1 | round(0, 0) = -1 // as it is now");
        e.on(20, "NONE (it stays, is away, too).", CHAIN, """
            round(0b00100, -1) = -1 | round(0b00100, 5) = -1 | round(0b00100, MIN) = -1 | round(0b00100, MAX) = -1
            round(0b100000, 5) = -1 | round(0b100100, 1) = -1 | round(-1, 1) = -1 | round(MIN, 1) = -1
            round(0b00100, 34) = -1 | stand(0b11101) = 31
            round(0b00100, 1) = -1 | round(0b00010, 1) = -1 | round(0b00110, 2) = -1 | round(0b00100, 3) = 1
            round(0b00100, 0) = -1 | count(5) = 0 | status() = 0
            """);
    }

    private static void take(Edges e) {
        e.on(21, "STONES (bits) are TAKEN, then a FALL: how many are away then that were there.", CHAIN, """
            take(0) = 0 | there() = 31 | take(0b10000) = 4 | there() = 1 | take(0) = 0 | take(1) = 1 | there() = 0
            take(0) = 0 | stand(31) = 0 | take(31) = 5 | stand(0b01011) = 0 | take(0) = 2 | there() = 1
            stand(0b00111) = 1 | take(0b00100) = 2 | there() = 1 | stand(0b11110) = 1 | take(0b00010) = 4
            there() = 0
            """);
        e.on(21, "STONES (bits) are TAKEN, then a FALL: how many are away then that were there.", CHAIN, """
            once(3) = 2 | oneByOne(3) = 1 | fell(0) = 1 | game(2) = 0 | night(1, 0) = 4
            take(0b00100) = 4 // asked anew
            once(3) = 1 | oneByOne(3) = 1 | fell(0) = 1 | game(2) = 0 | night(1, 0) = 0 | night(0, 0) = 1
            take(1) = 1 | once(3) = 0
            """);
        e.on(21, "-1 (one is away, too).", CHAIN, """
            take(0b100000) = -1 | status() = -1 | take(-1) = -1 | take(MIN) = -1 | take(MAX) = -1 | there() = 31
            stand(0b11101) = 31 | take(0b00010) = -1 | take(0b00011) = -1 | there() = 0b11101 | count(5) = 6
            take(0b11101) = 4 | status() = 0 | there() = 0 | take(1) = -1 | status() = -1 | count(5) = 7
            """);
        e.on(21, "-1 (one is away, too).", StoneEdges.fourteen(), StoneEdges.someSpares(1),
            "terms(0, 0) = 5 | take(16384) = -1 | take(8192) = 1 | take(8192) = -1 | take(8191) = 13 | there() = 0");
    }

    private static void farm(Edges e) {
        String farms = "put(0, 1, 3) = 0 | put(1, 1, 1) = 0 | put(2, 1, 1) = 0 | put(4, 1, 2) = 0";
        e.on(22, "Of what falls if some are TAKEN on paper (TAKEN ones, too) how many are a FARM's.", CHAIN, farms, """
            farm(0b00100, 0) = 1 | farm(0b00100, 1) = 2 | farm(0b00100, 2) = 1 | farm(0b00100, 3) = 0
            farm(0b00001, 3) = 1 | farm(0b00001, 1) = 2 | farm(0b10000, 2) = 1 | farm(0b11111, 3) = 1
            farm(0, 0) = 0 | farm(0, 1) = 0 | there() = 31
            """);
        e.on(22, "Of what falls if some are TAKEN on paper", CHAIN, farms, """
            farm(0b00100, -1) = -1 | farm(0b00100, 4) = -1 | farm(0b00100, MIN) = -1 | farm(0b00100, MAX) = -1
            farm(0b100000, 0) = -1 | farm(-1, 0) = -1 | farm(MIN, 0) = -1 | stand(0b11101) = 31
            farm(0b00010, 1) = -1 | farm(0b00110, 1) = -1 | farm(0b00100, 1) = 1 | farm(0b00100, 0) = 1 | count(5) = 0
            status() = 0
            """);
        e.on(22, "FARM 0 .. 3", StoneEdges.fourteen(), "terms(0, 12) = 5 | farm(0, 0) = 14 | put(13, 1, 3) = 0",
            "farm(0, 0) = 13 | farm(0, 3) = 1 | farm(8192, 3) = 1 | farm(16384, 3) = -1");
    }

    private static void gate(Edges e) {
        String wall =
            "terms(0, 0) = 5 | stone(4, 3, 3, 2, 1) = 0 | stone(0, 0, 1, 1, 1) = 1 | stone(11, 7, 1, 1, 1) = 2";
        e.on(27, "all STONES that have a CELL of x .. u, y .. v are TAKEN, then a FALL", wall, """
            gate(0, 1, 3, 7, 1) = 0 | gate(0, 1, 4, 7, 1) = 1 | gate(7, 0, 11, 6, 1) = 0 | gate(6, 0, 11, 6, 1) = 1
            gate(1, 0, 11, 2, 1) = 0 | gate(1, 0, 11, 3, 1) = 1 | gate(0, 5, 10, 7, 1) = 0 | gate(0, 4, 10, 7, 1) = 1
            gate(4, 3, 4, 3, 1) = 1 | gate(6, 4, 6, 4, 1) = 1 | gate(5, 3, 5, 3, 1) = 1 | gate(7, 5, 7, 5, 1) = 0
            gate(3, 2, 3, 2, 1) = 0 | gate(5, 0, 5, 7, 1) = 1 | gate(0, 3, 11, 3, 1) = 1 | gate(0, 0, 11, 7, 1) = 3
            gate(0, 0, 0, 0, 1) = 1 | gate(0, 0, 0, 0, 2) = 0b101 | gate(11, 7, 11, 7, 2) = 0b011
            gate(1, 0, 11, 6, 2) = 0b110 | gate(0, 0, 11, 7, 2) = 0 | gate(0, 0, 11, 7, 0) = 3 | there() = 7
            """);
        e.on(27, "how many are away then that were there (what 0), of these TAKEN (1), what is there then (2)", CHAIN,
            """
            gate(5, 3, 5, 3, 0) = 4 | gate(5, 3, 5, 3, 1) = 1 | gate(5, 3, 5, 3, 2) = 1
            gate(6, 0, 8, 7, 0) = 4 | gate(6, 0, 8, 7, 1) = 2 | gate(6, 0, 8, 7, 2) = 1
            gate(8, 3, 9, 3, 0) = 0 | gate(8, 3, 9, 3, 1) = 0 | gate(8, 3, 9, 3, 2) = 31
            gate(5, 3, 5, 3, -1) = -1 | gate(5, 3, 5, 3, 3) = -1 | gate(5, 3, 5, 3, MIN) = -1
            gate(5, 3, 5, 3, MAX) = -1 | there() = 31 | stand(0b11011) = 31 | gate(5, 3, 5, 3, 1) = 0
            gate(5, 3, 5, 3, 0) = 3 // one that is away
            gate(5, 3, 5, 3, 2) = 1 | gate(3, 3, 3, 3, 0) = 4 | gate(3, 3, 3, 3, 1) = 1
            """);
        e.on(27, "A GATE on paper",
            "stone(3, 3, 1, 1, 1) = 0 | gate(9, 0, 9, 0, 0) = 1 | terms(0, 0) = 5 | gate(9, 0, 9, 0, 0) = 0",
            "terms(0, 1) = 0 | gate(9, 0, 9, 0, 0) = 1 | gate(9, 0, 9, 0, 1) = 0 // it falls by itself");
        e.on(27, "NONE (x above u, y above v, out of the GRID, too).", wall, """
            gate(4, 3, 4, 3, 0) = 1 | gate(5, 3, 4, 3, 0) = -1 | gate(4, 4, 4, 3, 0) = -1 | gate(5, 4, 5, 4, 0) = 1
            gate(-1, 0, 0, 0, 0) = -1 | gate(0, -1, 0, 0, 0) = -1 | gate(0, 0, 0, 0, 0) = 1
            gate(11, 7, 12, 7, 0) = -1 | gate(11, 7, 11, 8, 0) = -1 | gate(11, 7, 11, 7, 0) = 1
            gate(12, 0, 12, 0, 0) = -1 | gate(0, 8, 0, 8, 0) = -1 | gate(-1, 0, -1, 0, 0) = -1
            gate(0, -1, 0, -1, 0) = -1 | gate(MIN, 0, MAX, 7, 0) = -1 | gate(0, MIN, 11, MAX, 0) = -1
            gate(0, 0, MAX, 7, 0) = -1 | gate(0, 0, 11, MAX, 2) = -1 | gate(MIN, 0, 11, 7, 1) = -1
            gate(0, MIN, 11, 7, 1) = -1 | gate(MAX, 0, MIN, 7, 1) = -1 | count(5) = 0
            """);
        e.on(27, "all STONES that have a CELL of x .. u, y .. v are TAKEN, then a FALL",
            "terms(0, 0) = 5 | spare(4, 3, 1, 1, 1) = 0 | gate(4, 3, 4, 3, 1) = 0",
            "gate(0, 0, 11, 7, 0) = 0 // no spare ones");
        e.on(27, "all STONES that have a CELL of x .. u, y .. v are TAKEN, then a FALL", StoneEdges.fourteen(),
            "terms(0, 0) = 5 | gate(6, 1, 6, 1, 2) = 8191 | gate(0, 0, 0, 0, 2) = 16382 | gate(0, 0, 11, 7, 1) = 14");
    }
}
