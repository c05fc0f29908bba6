/** Promises 23 to 26, 28 to 30: once, oneByOne, order, fell, mend, game, night. */
final class ThiefEdges {
    private static final String NONE_LOOSE = "once(0) = -1 | once(1) = -1 | once(2) = -1 | once(3) = 0\n";
    private static final String NO_STEPS =
        "oneByOne(0) = -1 | oneByOne(1) = -1 | oneByOne(2) = -1 | oneByOne(3) = 0 | order(0) = -1\n";
    /** Stones 0 and 1 in the air hold one another; 2 needs one more than it has, and lies apart. */
    private static final String PAIR_AND_ONE = """
        terms(0, 1) = 5 | stone(3, 3, 1, 1, 1) = 0 | stone(4, 3, 1, 1, 1) = 1 | stone(7, 3, 1, 1, 9) = 2
        """;
    /** 0, 3 stand alone; 1, 2 need one of 0, 1, 2: if 0 goes first, neither of them can. */
    private static final String DEAD_END = """
        terms(0, 0) = 5 | stone(3, 3, 2, 1, 5) = 0 | stone(3, 4, 1, 1, 1) = 1 | stone(4, 4, 1, 1, 1) = 2
        stone(8, 3, 1, 1, 1) = 3
        law{needs 1 if stone=1 or stone=2} = 0
        force(0) = -1 | unlawful() = -1
        """;
    /** Side by side from the grid's side on: lawful are {0}, {0, 1}, {1, 2}, {0, 1, 2}. */
    private static final String ROW_OF_THREE = """
        terms(0, 2) = 5 | terms(1, 1) = 2
        stone(0, 0, 1, 1, 5) = 0 | stone(1, 0, 1, 1, 7) = 1 | stone(2, 0, 1, 1, 5) = 2
        """;

    private ThiefEdges() {
    }

    static void run(Edges e) {
        inAnyOrder(e);
        once(e);
        oneByOne(e);
        order(e);
        fell(e);
        mend(e);
        mendOrder(e);
        game(e);
        night(e);
        nightPairs(e);
    }

    /** Stones that stand alone, of these weights. */
    private static String free(int... weights) {
        StringBuilder run = new StringBuilder("terms(0, 0) = 5\n");
        for (int i = 0; i < weights.length; i++) {
            run.append("stone(" + i % 6 * 2 + ", " + i / 6 * 2 + ", 1, 1, " + weights[i] + ") = " + i + "\n");
        }
        return run.toString();
    }

    private static String fourteenFree() {
        int[] weights = new int[14];
        java.util.Arrays.fill(weights, 99);
        return free(weights);
    }

    /** No question may be led astray by what another one has left behind. */
    private static void inAnyOrder(Edges e) {
        String wall = ROW_OF_THREE + """
            stone(5, 3, 1, 1, 1) = 3 | stone(6, 3, 1, 1, 1) = 4 | stone(8, 3, 1, 1, 1) = 5 | spare(9, 3, 1, 1, 1) = 0
            law{needs 1 if stone>2} = 0
            force(0) = -1 | unlawful() = 5
            """;
        String[] unlawful = {"once(0) = 5 | once(2) = 0b111110 | once(3) = 9",
            "oneByOne(0) = -1 | oneByOne(3) = 0 | order(0) = -1",
            "fell(0) = 3 | fell(1) = 0b001011 | fell(2) = 4", "game(0) = 0 | game(1) = -1 | game(2) = 1",
            "mend(0) = 1 | mend(1) = 1 | mend(2) = 1"};
        String[] lawful = {"once(0) = 4 | once(2) = 0b011110 | once(3) = 9",
            "oneByOne(0) = 3 | oneByOne(3) = 5 | order(0) = 2 | order(2) = 0",
            "fell(0) = 3 | fell(1) = 0b001011 | fell(2) = 4", "game(0) = 1 | game(1) = 0 | game(2) = 2",
            "mend(0) = 0 | mend(1) = 0 | mend(2) = 1"};
        int[] promises = {23, 24, 26, 29, 28};
        String[] sentences = {"At ONCE: of all LOOSE sets that of most STONES", "ONE BY ONE: the same of those sets",
            "FELLING: the fewest STONES, TAKEN at once", "By TURNS two thieves each take one STONE",
            "MENDED: the fewest SPARE STONES"};
        for (int first = 0; first < 5; first++) {
            for (int second = 0; second < 5; second++) {
                e.on(promises[second], sentences[second], wall, unlawful[first], unlawful[second]);
                e.on(promises[second], sentences[second], wall, "stand(0b011111) = 63", lawful[first], lawful[second]);
            }
        }
    }

    private static void once(Edges e) {
        e.on(23, "NONE (no set is LOOSE, for 0, 1, 2).", NONE_LOOSE, "stone(5, 5, 1, 1, 1) = 0", NONE_LOOSE,
            "terms(0, 0) = 5 | once(0) = 0 | once(1) = 0 | once(2) = 0 | once(3) = 1 // none taken", "stand(0) = 1",
            NONE_LOOSE);
        e.on(23, "of all LOOSE sets that of most STONES", """
            terms(0, 1) = 5 | stone(3, 3, 1, 1, 1) = 0 | stone(4, 3, 1, 1, 1) = 1 | stone(7, 3, 1, 1, 99) = 2
            law{bound if stone=2} = 0
            force(0) = -1 | once(0) = 2 | once(1) = 2 | once(2) = 0b011 | once(3) = 3 // ahead of {2}, which weighs 99
            """);
        e.on(23, "of alike ones of most WEIGHT", free(5, 6), """
            once(0) = 1 | once(1) = 6 | once(2) = 0b10 | once(3) = 3 | put(0, 0, 7) = 5 | once(1) = 7 | once(2) = 0b01
            """);
        e.on(23, "of alike ones of most WEIGHT, then the lowest as bits.", free(6, 6),
            "once(0) = 1 | once(1) = 6 | once(2) = 0b01 | put(1, 0, 7) = 6 | once(2) = 0b10");
        e.on(23, "then the lowest as bits.", free(3, 4, 3), "once(0) = 2 | once(1) = 7 | once(2) = 0b011 | once(3) = 7",
            "put(1, 0, 2) = 4 | once(1) = 6 | once(2) = 0b101 | put(1, 0, 3) = 2 | once(2) = 0b011");
        e.on(23, "how many (what 0), their WEIGHT (1), which (2), how many LOOSE sets there are (3)", free(1, 1),
            "once(-1) = -1 | once(0) = 1 | once(3) = 3 | once(4) = -1 | once(MIN) = -1 | once(MAX) = -1",
            "count(5) = 0");
        e.on(23, "LAWFUL is a WALL in which one at least is there and all that are there STAND.", free(1),
            "once(0) = 0 | once(2) = 0 | once(3) = 1 // not the last", "unlawful() = -1");
        e.on(23, "LAWFUL is a WALL in which one at least is there and all that are there STAND.", fourteenFree(),
            "once(0) = 13 | once(1) = 1287 | once(2) = 8191 | once(3) = 16383");
        e.on(23, "LOOSE is a set of STONES that are there", free(1, 1, 1),
            "stand(0b101) = 7 | once(0) = 1 | once(2) = 0b001 | once(3) = 3",
            "stand(0b100) = 5 | once(0) = 0 | once(2) = 0 | once(3) = 1");
        e.on(23, "LOOSE is a set of STONES that are there, if the WALL is LAWFUL without them.", PAIR_AND_ONE, """
            unlawful() = 2 | once(0) = 1 | once(1) = 9 | once(2) = 0b100 | once(3) = 1 // though it is not lawful now
            stone(8, 3, 1, 1, 1) = 3 | unlawful() = -1 | once(3) = 3 | once(0) = 2 | once(1) = 10 | once(2) = 0b1100
            """);
    }

    private static void oneByOne(Edges e) {
        e.on(24, "NONE (it is not LAWFUL; 0 for 3).", NO_STEPS, PAIR_AND_ONE, NO_STEPS, """
            stand(0b011) = 7 | oneByOne(0) = 0 | oneByOne(1) = 0 | oneByOne(2) = 0 | oneByOne(3) = 1 | stand(0) = 3
            """, NO_STEPS);
        e.on(24, "how many such sets there are (3; none TAKEN, too)", free(1, 2), """
            oneByOne(0) = 1 | oneByOne(1) = 2 | oneByOne(2) = 0b10 | oneByOne(3) = 3 | stand(0b10) = 3
            oneByOne(0) = 0 | oneByOne(1) = 0 | oneByOne(2) = 0 | oneByOne(3) = 1
            """);
        e.on(24, "so that the WALL is LAWFUL behind each", """
            terms(0, 1) = 5 | stone(2, 3, 1, 1, 1) = 0 | stone(3, 3, 1, 1, 1) = 1 | stone(6, 3, 1, 1, 1) = 2
            stone(7, 3, 1, 1, 2) = 3 | once(0) = 2 | once(2) = 0b1100
            once(3) = 3 // a pair at once, but not one by one
            oneByOne(0) = 0 | oneByOne(1) = 0 | oneByOne(2) = 0 | oneByOne(3) = 1
            """);
        e.on(24, "so that the WALL is LAWFUL behind each", DEAD_END,
            "once(3) = 11 | oneByOne(0) = 3 | oneByOne(1) = 7 | oneByOne(2) = 0b0111 | oneByOne(3) = 11");
        e.on(24, "ONE BY ONE: the same of those sets", free(3, 4, 3), """
            oneByOne(0) = 2 | oneByOne(1) = 7 | oneByOne(2) = 0b011 | oneByOne(3) = 7 | put(1, 0, 2) = 4
            oneByOne(1) = 6 | oneByOne(2) = 0b101 | put(2, 0, 4) = 3 | put(1, 0, 4) = 2 | oneByOne(1) = 8
            oneByOne(2) = 0b110
            """);
        e.on(24, "ONE BY ONE: the same of those sets", fourteenFree(),
            "oneByOne(0) = 13 | oneByOne(1) = 1287 | oneByOne(2) = 8191 | oneByOne(3) = 16383");
        e.on(24, "NONE (it is not LAWFUL; 0 for 3).", fourteenFree(), """
            oneByOne(3) = 16383 | game(2) = 14 | terms(0, 12) = 0 | oneByOne(3) = 0 | oneByOne(0) = -1 | game(2) = 0
            once(3) = 0
            """);
        e.on(24, "how many (what 0), their WEIGHT (1), which (2), how many such sets there are (3", free(1, 1),
            "oneByOne(-1) = -1 | oneByOne(0) = 1 | oneByOne(3) = 3 | oneByOne(4) = -1 | oneByOne(MIN) = -1",
            "oneByOne(MAX) = -1");
    }

    private static void order(Edges e) {
        e.on(25, "the FIRST order as a row", DEAD_END,
            "order(-1) = -1 | order(0) = 1 | order(1) = 2 | order(2) = 0 | order(3) = -1 // not 0 first: a dead end",
            "put(3, 0, 9) = 1 | oneByOne(2) = 0b1110 | order(0) = 1 | order(1) = 2 | order(2) = 3 | order(3) = -1");
        e.on(25, "the FIRST order as a row", free(1, 1, 1), "order(0) = 0 | order(1) = 1 | order(2) = -1");
        e.on(25, "the FIRST order as a row", ROW_OF_THREE,
            "oneByOne(2) = 0b110 | order(0) = 2 | order(1) = 1 | order(2) = -1 // 1 can't be taken first");
        e.on(25, "The i-th STONE of the FIRST order. NONE.", "order(0) = -1", fourteenFree(), """
            order(-1) = -1 | order(0) = 0 | order(12) = 12 | order(13) = -1 | order(14) = -1 | order(MIN) = -1
            order(MAX) = -1 | stand(0b10000000000000) = 16383 | order(0) = -1 | stand(0b11000000000000) = 8192
            order(0) = 12 | order(1) = -1 | put(13, 0, 99) = 99 | put(12, 0, 98) = 99 | order(0) = 13 | order(1) = -1
            terms(0, 12) = 0 | order(0) = -1
            """);
    }

    private static void fell(Edges e) {
        e.on(26, "(None is there: 0.)", """
            fell(0) = 0 | fell(1) = 0 | fell(2) = 1 | terms(0, 0) = 5 | stone(5, 5, 1, 1, 1) = 0
            fell(0) = 1 | fell(1) = 1 | fell(2) = 1 | stand(0) = 1 | fell(0) = 0 | fell(1) = 0 | fell(2) = 1
            stand(1) = 0 | terms(0, 1) = 0 | fell(0) = 0 | fell(1) = 0 | fell(2) = 1 // it falls by itself
            """);
        e.on(26, "how many (what 0), which (1), in how many ways (2). NONE.", free(1),
            "fell(-1) = -1 | fell(0) = 1 | fell(2) = 1 | fell(3) = -1 | fell(MIN) = -1 | fell(MAX) = -1",
            "count(5) = 0");
        e.on(26, "behind whose FALL none is there; the lowest as bits; in how many ways.",
            PAIR_AND_ONE, """
            fell(0) = 1 | fell(1) = 0b001 | fell(2) = 2 | stone(8, 3, 1, 1, 1) = 3
            fell(0) = 2 | fell(1) = 0b0101 | fell(2) = 4 | stand(0b1110) = 15 | fell(0) = 1 | fell(1) = 0b0100
            fell(2) = 2
            """);
        e.on(26, "the fewest STONES, TAKEN at once, behind whose FALL none is there", ROW_OF_THREE,
            "fell(0) = 2 | fell(1) = 0b011 | fell(2) = 2 | terms(0, 3) = 2 | fell(0) = 0 | terms(0, 0) = 3",
            "fell(0) = 3 | fell(1) = 7");
        e.on(26, "the fewest STONES, TAKEN at once, behind whose FALL none is there", """
            terms(0, 0) = 5 | stone(3, 3, 1, 1, 1) = 0 | stone(5, 3, 1, 1, 5) = 1 | stone(4, 3, 1, 1, 5) = 2
            fell(0) = 3 | oneByOne(2) = 0b110 | terms(0, 1) = 0 // asked anew
            fell(0) = 1 | fell(1) = 0b100 | fell(2) = 1
            """);
        e.on(26, "the fewest STONES, TAKEN at once, behind whose FALL none is there", fourteenFree(),
            "fell(0) = 14 | fell(1) = 16383 | fell(2) = 1 | terms(0, 12) = 0 | fell(0) = 0 | fell(2) = 1");
        e.on(26, "the fewest STONES, TAKEN at once, behind whose FALL none is there", StoneEdges.fourteen(),
            "law{needs 1;bound if stone=13} = 0",
            "force(0) = -1 | terms(1, 0) = 2 | terms(2, 0) = 1 | fell(2) = 1 | stand(0b10000001000000) = 16383",
            "fell(0) = 1 | fell(1) = 0b10000000000000 | fell(2) = 1 // 6 stands by 13 alone");
    }

    private static void mend(Edges e) {
        e.on(28, "NONE (not at all, for 0, 1; 0 for 2).", """
            mend(0) = -1 | mend(1) = -1 | mend(2) = 0 | stone(5, 3, 1, 1, 1) = 0 | mend(0) = -1 | mend(1) = -1
            mend(2) = 0 | terms(0, 1) = 5 | mend(0) = -1 | spare(7, 3, 1, 1, 1) = 0 | mend(0) = -1 | mend(1) = -1
            mend(2) = 0 | spare(6, 4, 1, 1, 1) = 1 | mend(2) = 0 | spare(6, 3, 1, 1, 1) = 2 | mend(0) = 1
            mend(1) = 0b100 | mend(2) = 1 | terms(0, 0) = 1 | mend(0) = 0 | mend(1) = 0
            mend(2) = 1 // it is lawful already
            """);
        e.on(28, "how many SPARE ones (what 0), which (1), in how many ways (2)",
            "terms(0, 0) = 5 | stone(5, 3, 1, 1, 1) = 0",
            "mend(-1) = -1 | mend(0) = 0 | mend(2) = 1 | mend(3) = -1 | mend(MIN) = -1 | mend(MAX) = -1",
            "count(5) = 0");
        e.on(28, "by which, put where their places are, the WALL is LAWFUL", """
            spare(5, 3, 1, 1, 1) = 0 | mend(0) = -1 | terms(0, 0) = 5 | mend(0) = 1 | mend(1) = 1
            mend(2) = 1 // it stands alone
            spare(9, 3, 1, 1, 1) = 1 | mend(0) = 1 | mend(1) = 1 | mend(2) = 2 | stone(7, 3, 1, 1, 1) = 0
            mend(0) = 0 | stand(0) = 1 | mend(0) = 1 | there() = 0 | count(2) = 2
            """);
        e.on(28, "by which, put where their places are, the WALL is LAWFUL", """
            stone(5, 3, 1, 1, 1) = 0 | spare(6, 3, 1, 1, 1) = 0 | spare(7, 3, 1, 1, 1) = 1 | spare(6, 0, 1, 1, 1) = 2
            law{needs 1;needs 2 if stone=14} = 0
            force(0) = -1 | mend(0) = 2 | mend(1) = 0b011 | mend(2) = 1 // the spare ones must stand, too
            law{needs 1;needs 3 if stone=14} = 1
            force(1) = 0 | mend(0) = -1 | mend(2) = 0
            """);
        e.on(28, "by which, put where their places are, the WALL is LAWFUL", """
            terms(0, 3) = 5 | stone(5, 1, 1, 1, 1) = 0 | spare(5, 0, 1, 1, 1) = 0 | spare(0, 1, 5, 1, 1) = 1
            spare(6, 1, 6, 1, 1) = 2 | mend(0) = -1 | spare(11, 0, 1, 1, 1) = 3 | mend(0) = -1
            spare(0, 0, 1, 1, 1) = 4 | mend(0) = 5 | mend(1) = 31 | mend(2) = 1 | terms(2, 2) = 1 | mend(0) = 3
            mend(1) = 0b00111 | mend(2) = 1 // the sides hold more
            """);
    }

    /** A ring of nine stones, of which eight are spare. */
    private static void mendOrder(Edges e) {
        String ring = """
            stone(3, 2, 2, 1, 1) = 0 | spare(5, 2, 1, 1, 1) = 0 | spare(6, 2, 1, 1, 1) = 1 | spare(6, 3, 1, 1, 1) = 2
            spare(6, 4, 1, 1, 1) = 3 | spare(5, 4, 1, 1, 1) = 4 | spare(4, 4, 1, 1, 1) = 5 | spare(3, 4, 1, 1, 1) = 6
            """;
        e.on(28, "the fewest SPARE STONES", ring,
            "terms(0, 2) = 5 | mend(0) = -1 | mend(2) = 0 | spare(3, 3, 1, 1, 1) = 7",
            "mend(0) = 8 | mend(1) = 255 | mend(2) = 1 // all of them");
        e.on(28, "the lowest as bits; in how many ways.", ring, """
            terms(0, 1) = 5 | mend(0) = 1 | mend(1) = 1 | mend(2) = 1 | spare(3, 3, 1, 1, 1) = 7
            mend(0) = 1 | mend(1) = 1 | mend(2) = 2 | terms(0, 3) = 1 | mend(0) = -1 | mend(2) = 0
            law{needs 1;needs 9 if stone=14} = 0
            force(0) = -1 | mend(0) = 1 | mend(1) = 0b10000000 | mend(2) = 1
            """);
    }

    private static void game(Edges e) {
        e.on(29, "Whether who is first WINS (what 0: 1, 0), the STONE to take (1; NONE: he loses)",
            "game(0) = 0 | game(1) = -1 | game(2) = 0", free(1), """
            game(0) = 0 | game(1) = -1 | game(2) = 0 // the last one can't be taken
            stone(2, 0, 1, 1, 1) = 1 | game(0) = 1 | game(1) = 0 | game(2) = 2
            stone(4, 0, 1, 1, 1) = 2 | game(0) = 0 | game(1) = -1 | game(2) = 3
            stone(6, 0, 1, 1, 1) = 3 | game(0) = 1 | game(1) = 0 | game(2) = 4
            stand(0b1010) = 15 | game(0) = 1 | game(1) = 1 | game(2) = 2 | stand(0) = 10 | game(0) = 0 | game(1) = -1
            """);
        e.on(29, "Who WINS, who is first, takes the lowest STONE by which the other one loses", DEAD_END, """
            game(0) = 1 | game(1) = 1 | game(2) = 4 // by 0 the other one wins
            stand(0b1110) = 15 | game(0) = 1 | game(1) = 3 | game(2) = 1 | stand(0b1011) = 14 | game(0) = 0
            game(1) = -1 | game(2) = 2 | stand(0b0111) = 11 | game(0) = 1 | game(1) = 0 | game(2) = 3
            stand(0b0110) = 7 | game(0) = 0 | game(2) = 0
            """);
        e.on(29, "each take one STONE so that the WALL is LAWFUL then", PAIR_AND_ONE, """
            unlawful() = 2 | game(0) = 1 | game(1) = 2 | game(2) = 1 // it need not be lawful ahead of that
            stand(0b011) = 7 | game(0) = 0 | game(1) = -1 | game(2) = 0 | stand(0b101) = 3 | game(0) = 0 | game(2) = 0
            """);
        e.on(29, "each take one STONE so that the WALL is LAWFUL then", free(1, 1, 1), """
            law{needs 9 if stone=2} = 0
            force(0) = -1 | unlawful() = 2 | game(0) = 0 | game(1) = -1
            game(2) = 1 // he must take 2, then the other one wins
            stone(11, 7, 1, 1, 1) = 3 | game(0) = 1 | game(1) = 2 | game(2) = 1
            """);
        e.on(29, "how many STONES he could take at all (2). NONE.", fourteenFree(), """
            game(-1) = -1 | game(0) = 1 | game(1) = 0 | game(2) = 14 | game(3) = -1 | game(MIN) = -1 | game(MAX) = -1
            stand(8191) = 16383 | game(0) = 0 | game(1) = -1 | game(2) = 13 | terms(0, 12) = 0 | game(2) = 0
            count(5) = 0
            """);
    }

    private static void night(Edges e) {
        e.on(30, "how many single STONES (what 0), the lowest (1), how many pairs (2), the lowest pair as bits (3;",
            ROW_OF_THREE, """
            night(0b001, 0) = 1 | night(0b001, 1) = 1 | night(0b001, 2) = 1 | night(0b001, 3) = 0b110
            night(0b000, 0) = 0 | night(0b000, 1) = -1 | night(0b000, 2) = 2 | night(0b000, 3) = 0b011
            night(0b110, 0) = 1 | night(0b110, 1) = 0 | night(0b110, 2) = 0 | night(0b110, 3) = -1
            night(0b011, 0) = 1 | night(0b011, 1) = 2 | night(0b011, 2) = 0 | night(0b011, 3) = -1
            night(0b111, 0) = 0 | night(0b111, 1) = -1 | night(0b111, 2) = 0 | night(0b111, 3) = -1
            night(1, -1) = -1 | night(1, 4) = -1 | night(1, MIN) = -1 | night(1, MAX) = -1 | there() = 7
            """);
        e.on(30, "NONE (none, for 1, 3; one is away, too).", ROW_OF_THREE, """
            night(0b1000, 0) = -1 | night(0b1001, 2) = -1 | night(-1, 0) = -1 | night(MIN, 0) = -1
            night(MAX, 2) = -1 | stand(0b011) = 7 | night(0b100, 0) = -1 | night(0b101, 0) = -1 | night(0b101, 2) = -1
            night(0b001, 0) = 1 | night(0b001, 1) = 1 | night(0b010, 0) = 0 | night(0b010, 1) = -1 | night(0, 0) = 1
            night(0, 1) = 0 | night(0, 2) = 1 | night(0, 3) = 0b011 | stand(0b001) = 3 | night(0, 0) = 1
            night(0, 1) = 0 | night(0, 2) = 0 | night(0, 3) = -1 | stand(0) = 1 | night(0, 0) = 0 | night(0, 1) = -1
            night(0, 2) = 0 | night(1, 0) = -1 | count(5) = 0
            """);
        e.on(30, "if the WALL as it is was ahead of that, and such STONES are there behind the FALL", PAIR_AND_ONE, """
            stand(0b011) = 7 | night(0b010, 0) = 0 | night(0b001, 0) = 0 | night(0b000, 0) = 2 | night(0b000, 2) = 1
            terms(0, 0) = 1 | night(0b010, 0) = 1 | night(0b010, 1) = 0 | night(0b001, 1) = 1 | night(0b000, 0) = 0
            night(0b000, 2) = 1
            """);
        e.on(30, "STONES that were TAKEN (one, or two at once)", free(1, 1, 1), """
            night(0b110, 0) = 1 | night(0b110, 2) = 0 | night(0b100, 0) = 0 | night(0b100, 2) = 1
            night(0b100, 3) = 0b011 | night(0b000, 0) = 0 | night(0b000, 2) = 0 | night(0b000, 3) = -1 // not three
            """);
        e.on(30, "(It does not matter whether it is LAWFUL now.)", PAIR_AND_ONE, """
            unlawful() = 2 | night(0b011, 0) = 1 | night(0b011, 1) = 2 | night(0b011, 2) = 0 | night(0b111, 0) = 0
            night(0b000, 0) = 2 | night(0b000, 1) = 0 | night(0b000, 2) = 3 | night(0b000, 3) = 0b011
            night(0b001, 0) = 0 | night(0b001, 2) = 0 // what does not stand can't be there behind a fall
            """);
    }

    private static void nightPairs(Edges e) {
        e.on(30, "by the lower STONE, then the other", """
            terms(0, 1) = 5 | stone(3, 3, 1, 1, 1) = 0 | stone(4, 3, 1, 1, 1) = 1 | stone(3, 4, 1, 1, 1) = 2
            stone(4, 4, 1, 1, 1) = 3 | night(0, 2) = 2 | night(0, 3) = 0b1001 // ahead of {1, 2}, which is lower as bits
            night(0b0011, 2) = 1 | night(0b0011, 3) = 0b1100 | night(0b0011, 0) = 0
            """);
        e.on(30, "by the lower STONE, then the other", fourteenFree(), """
            night(8191, 0) = 1 | night(8191, 1) = 13 | night(8191, 2) = 0 | night(0b111111111111, 2) = 1
            night(0b111111111111, 3) = 0b11000000000000 | night(0b11111111111100, 3) = 0b11 | night(16384, 0) = -1
            night(0b01111111111110, 3) = 0b10000000000001 | night(0b11111111111110, 1) = 0
            """);
    }
}
