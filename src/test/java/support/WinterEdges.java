/** Promises 31 and 32: winters, winter. */
final class WinterEdges {
    private WinterEdges() {
    }

    static void run(Edges e) {
        numbers(e);
        draws(e);
        allDrawsFirst(e);
        frost(e);
        wraps(e);
        putBack(e);
        winter(e);
    }

    /** Stones that stand alone, with these frosts. */
    private static String free(int... frosts) {
        StringBuilder run = new StringBuilder("terms(0, 0) = 5\n");
        for (int i = 0; i < frosts.length; i++) {
            run.append("stone(" + i % 6 * 2 + ", " + i / 6 * 2 + ", 1, 1, 1) = " + i + " | put(" + i + ", 2, "
                + frosts[i] + ") = 0\n");
        }
        return run.toString();
    }

    private static void numbers(Edges e) {
        e.on(31, "s is the SEED (0 .. 1,000,000)", free(0), """
            winters(-1, 1) = -1 | status() = -1 | winters(0, 1) = 1 | status() = 0 | winters(1000000, 1) = 1
            winters(1000001, 1) = -1 | winters(MIN, 1) = -1 | winters(MAX, 1) = -1 | count(5) = 4
            """);
        e.on(31, "WINTERS, 1 .. 40, kept as the latest: how many STONES are there then. -1.", free(0, 0), """
            winters(0, 0) = -1 | winter(0) = -1 | winters(0, 1) = 2 | winter(0) = 3 | winter(1) = -1
            winters(0, 40) = 2 | winter(39) = 3 | winter(40) = -1 | winters(0, 41) = -1 | status() = -1
            winter(39) = 3 | winters(0, -1) = -1 | winters(0, MIN) = -1 | winters(0, MAX) = -1 | winter(39) = 3
            winters(-1, 41) = -1 | count(5) = 6 | winters(0, 2) = 2 | winter(1) = 3 | winter(2) = -1 | status() = 0
            """);
        e.on(31, "how many STONES are there then", "winters(0, 40) = 0 | winter(39) = 0 | status() = 0",
            StoneEdges.fourteen(),
            "terms(0, 0) = 5 | winters(0, 40) = 14 | winter(39) = 16383 | stand(0) = 16383 | winters(0, 13) = 13",
            "winter(12) = 8191",
            "winters(0, 14) = 14 | winter(0) = 1 | winter(13) = 16383 | winters(0, 15) = 14 | winter(14) = 16383");
    }

    /** From seed 0 s is 12,345, then 628,741, 507,189: the draws of 100 are 45, 41, 89. */
    private static void draws(Edges e) {
        e.on(31, "it is TAKEN, if that is below its FROST", free(0, 45),
            "stand(2) = 3 | winters(0, 1) = 2 | winter(0) = 3",
            "put(1, 2, 46) = 45 | winters(0, 1) = 1 | winter(0) = 1 | put(1, 2, 44) = 46 | winters(0, 1) = 2");
        e.on(31, "In each WINTER STONE by STONE that is there a DRAW of 100", free(0, 0, 0, 42), """
            stand(0b1000) = 15 | winters(0, 1) = 2 | winter(0) = 0b1001 // 45 is its draw
            stand(0b1010) = 8 | winters(0, 1) = 2 | winter(0) = 0b0011 // 41 is: 45 was that of 1
            stand(0b1011) = 10 | winters(0, 1) = 4 | winter(0) = 0b1111 // 89 is
            """);
        e.on(31, "it is s modulo n. In each WINTER STONE by STONE that is there a DRAW of 100", free(0, 42, 0), """
            stand(0b010) = 7 | winters(0, 2) = 3 | winter(0) = 0b011
            winter(1) = 0b111 // 45; then 41 is that of 0, 89 its own
            put(1, 2, 90) = 42 | winters(0, 1) = 1 | winter(0) = 0b001 // taken, and one put back
            winters(0, 2) = 2 | winter(1) = 0b011 // it has no draw while it is away: 41 is that of 0
            """);
    }

    /** 1 falls if 0 is taken, but all draws come ahead of the fall: 2 has the third of them. */
    private static void allDrawsFirst(Edges e) {
        e.on(31, "a DRAW of 100: it is TAKEN, if that is below its FROST; a FALL.",
            "terms(0, 0) = 5 | stone(3, 3, 1, 1, 1) = 0 | stone(4, 3, 1, 1, 1) = 1 | stone(8, 3, 1, 1, 1) = 2",
            "law{needs 1 if stone=1} = 0", """
            force(0) = -1 | put(0, 2, 46) = 0 | put(2, 2, 42) = 0 | winters(0, 1) = 2 | winter(0) = 0b101
            put(2, 2, 90) = 42 | winters(0, 1) = 1 | winter(0) = 0b001 // 89 is its draw
            put(0, 2, 45) = 46 | put(2, 2, 42) = 90 | winters(0, 1) = 3 | winter(0) = 0b111
            """);
    }

    private static void frost(Edges e) {
        e.on(31, "FROST 0 .. 100", free(0, 0), "stand(2) = 3 | winters(" + seedOf(0) + ", 1) = 2 // 0 is not below 0",
            "put(1, 2, 1) = 0 | winters(" + seedOf(0) + ", 1) = 1 | winter(0) = 1 | winters(" + seedOf(1)
            + ", 1) = 2 // 1 is not below 1");
        e.on(31, "FROST 0 .. 100", free(0, 99),
            "stand(2) = 3 | winters(" + seedOf(99) + ", 1) = 2 // 99 is not below 99",
            "winters(" + seedOf(98) + ", 1) = 1 | put(1, 2, 100) = 99 | winters(" + seedOf(99)
            + ", 1) = 1 | winter(0) = 1");
        e.on(31, "FROST 0 .. 100", free(100, 100, 100),
            "winters(7, 40) = 1 | winter(0) = 1 | winter(39) = 1 // all are taken each time",
            "put(0, 2, 0) = 100 | winters(7, 2) = 2 | winter(0) = 0b011 | winter(1) = 0b011");
    }

    /** The lowest seed whose first draw of 100 is that. */
    private static int seedOf(int draw) {
        int seed = 0;
        while ((seed * 1103L + 12345) % 1000003 % 100 != draw) {
            seed++;
        }
        return seed;
    }

    /** Seeds by which s just does not, and just does, reach 1,000,003 again. */
    private static void wraps(Edges e) {
        int zero = 0;
        while ((zero * 1103L + 12345) % 1000003 != 0) {
            zero++;
        }
        int most = 0;
        while ((most * 1103L + 12345) % 1000003 != 1000002) {
            most++;
        }
        String wrap = "s becomes (s times 1103 and 12345) modulo 1,000,003";
        e.on(31, wrap, free(0, 1), "stand(2) = 3 | winters(" + zero + ", 1) = 1 | winter(0) = 1 // s is 0",
            "put(1, 2, 3) = 1 | winters(" + most + ", 1) = 1 | put(1, 2, 2) = 3 | winters(" + most
            + ", 1) = 2 // s is 1,000,002");
        e.on(31, wrap, free(0, 0, 45),
            "stand(0b110) = 7 | winters(" + zero + ", 1) = 3 // then 12,345: 45 is not below 45",
            "put(2, 2, 46) = 45 | winters(" + zero + ", 1) = 2 | winter(0) = 0b011");
        // 895 * 1103 + 12345 = 999,530; 896 * 1103 + 12345 = 1,000,633, which is 630 beyond.
        e.on(31, wrap, free(0, 31), "stand(2) = 3 | winters(895, 1) = 1 | put(1, 2, 30) = 31 | winters(895, 1) = 2",
            "winters(896, 1) = 2 | put(1, 2, 31) = 30 | winters(896, 1) = 1");
        // 1,000,000 * 1103 + 12345 = 1103 * 1,000,003 + 9,036; 9,036 * 1103 + 12345 = 9 * 1,000,003 + 979,026.
        e.on(31, wrap, free(0, 37, 26), "stand(6) = 7 | winters(1000000, 1) = 2 | winter(0) = 0b101",
            "put(1, 2, 36) = 37 | put(2, 2, 27) = 26 | winters(1000000, 1) = 2 | winter(0) = 0b011");
    }

    private static void putBack(Edges e) {
        e.on(31, "Then one STONE is put back, if some are away", free(0, 0, 0), """
            winters(0, 2) = 3 | winter(0) = 7 | stand(0b011) = 7 | winters(0, 2) = 3 | winter(0) = 7 | winter(1) = 7
            stand(0b100) = 3 | winters(0, 3) = 3 | winter(0) = 0b101 | winter(1) = 0b111 | winter(2) = 0b111
            spare(0, 7, 1, 1, 1) = 0 | winters(0, 3) = 3 // no spare one
            """);
        e.on(31, "the lowest by which fewest that are there do not STAND", """
            terms(0, 1) = 5 | terms(1, 0) = 2 | terms(2, 0) = 1
            stone(0, 0, 1, 1, 1) = 0 | stone(5, 0, 1, 1, 1) = 1 | stone(6, 0, 1, 1, 1) = 2 | stone(4, 0, 1, 1, 1) = 3
            law{bound if stone=1} = 0
            force(0) = -1 | stand(0b0010) = 15 | winters(0, 3) = 4 | winter(0) = 0b0110 // 0 would not stand
            winter(1) = 0b1110 | winter(2) = 0b1111 // then it comes, for there is no other one
            winters(0, 4) = 4 | winter(3) = 0b1111 // it fell, and came again
            """);
        e.on(31, "the lowest by which fewest that are there do not STAND", """
            terms(0, 1) = 5 | stone(3, 3, 1, 1, 1) = 0 | stone(4, 3, 1, 1, 1) = 1 | stone(5, 3, 1, 1, 1) = 2
            put(1, 2, 100) = 0 | winters(5, 1) = 1 | winter(0) = 1 // the others fell; each of the three would not stand
            winters(5, 3) = 1 | winter(2) = 1
            """);
        e.on(31, "a FALL. Then one STONE is put back", """
            terms(0, 1) = 5 | stone(3, 3, 1, 1, 1) = 0 | stone(4, 3, 1, 1, 1) = 1 | stand(0b10) = 3
            winters(5, 2) = 1 | winter(0) = 0b01 | winter(1) = 0b01 // 1 falls without a frost
            """);
        e.on(31, "On paper.", free(100, 100),
            "winters(0, 3) = 1 | there() = 3 | winters(0, 3) = 1 | of(1, 7) = 1 | count(1) = 2");
    }

    private static void winter(Edges e) {
        e.on(32, "Behind the i-th WINTER of the latest: STONES that are there, as bits. NONE.",
            "winter(0) = -1 | winter(-1) = -1", free(0, 0, 0), """
            stand(0) = 7 | winter(0) = -1 | winters(0, 3) = 3 | winter(-1) = -1 | winter(0) = 1 | winter(1) = 3
            winter(2) = 7 | winter(3) = -1 | winter(39) = -1 | winter(40) = -1 | winter(MIN) = -1 | winter(MAX) = -1
            count(5) = 0 | winters(0, 2) = 2 | winter(1) = 3 | winter(2) = -1 // the latest had two
            winters(0, 41) = -1 | winter(1) = 3 | stand(7) = 0 | winter(0) = 1 | stone(11, 7, 1, 1, 1) = 3
            winter(1) = 3 | winters(9, 1) = 4 | winter(0) = 15 | winter(1) = -1
            """);
    }
}
