/** Promises 1 to 6, 14, 17, 18: the new object, stone, spare, put, of, terms, at, there, stand. */
final class StoneEdges {
    private StoneEdges() {
    }

    static void run(Edges e) {
        newObject(e);
        places(e);
        others(e);
        stone(e);
        spare(e);
        put(e);
        of(e);
        terms(e);
        at(e);
        thereAndStand(e);
    }

    /** Fourteen stones of one cell, in the two lowest courses. */
    static String fourteen() {
        return some(14);
    }

    static String some(int many) {
        StringBuilder run = new StringBuilder();
        for (int i = 0; i < many; i++) {
            run.append("stone(" + i % 7 + ", " + i / 7 + ", 1, 1, 1) = " + i + "\n");
        }
        return run.toString();
    }

    /** Spare stones of one cell, in the highest course. */
    static String someSpares(int many) {
        StringBuilder run = new StringBuilder();
        for (int i = 0; i < many; i++) {
            run.append("spare(" + i + ", 7, 1, 1, 1) = " + i + "\n");
        }
        return run.toString();
    }

    private static void newObject(Edges e) {
        e.on(1, "No STONES.", """
            count(0) = 0 | count(1) = 0 | there() = 0 | unlawful() = -1
            of(0, 0) = -1 | of(0, 7) = -1 | touches(0, 0) = -1 | at(0, 0) = -1 | put(0, 0, 1) = -2
            stand(1) = -1 | take(1) = -1 | stand(0) = 0 | take(0) = 0
            falls(1, 0) = -1 | falls(0, 0) = 0 | falls(0, 1) = 0 | falls(0, 2) = 0 | falls(0, 3) = 0
            round(0, 0) = -1 | farm(0, 0) = 0 | farm(1, 0) = -1
            gate(0, 0, 11, 7, 0) = 0 | gate(0, 0, 11, 7, 1) = 0 | gate(0, 0, 11, 7, 2) = 0
            night(0, 0) = 0 | night(0, 1) = -1 | night(0, 2) = 0 | night(0, 3) = -1 | night(1, 0) = -1
            winters(0, 1) = 0 | winter(0) = 0
            stone(0, 0, 1, 1, 1) = 0 // with one it is otherwise
            count(0) = 1 | count(1) = 1 | there() = 1 | unlawful() = 0 | of(0, 0) = 0 | of(0, 7) = 1
            touches(0, 0) = 5 | at(0, 0) = 0 | put(0, 0, 1) = 1 | stand(1) = 1 | falls(1, 0) = 0 | round(1, 0) = 0
            """);
        e.on(1, "No STONES.", "count(2) = 0 | spare(0, 0, 1, 1, 1) = 0 // no spare ones either",
            "count(2) = 1 | count(0) = 0");
        e.on(1, "No STONES.", "count(0) = 0 // nor those of another object");
    }

    private static void places(Edges e) {
        e.onBoth("CELLS x 0 .. 11", """
            NEW(-1, 0, 1, 1, 1) = -1 | status() = -1
            NEW(0, 0, 1, 1, 1) = 0 | status() = 0
            NEW(11, 0, 1, 1, 1) = 1 | NEW(12, 0, 1, 1, 1) = -1
            NEW(-1, 5, 2, 1, 1) = -1 | NEW(-5, 5, 6, 1, 1) = -1 // though a cell of it would be within
            NEW(MIN, 5, 6, 1, 1) = -1 | NEW(MAX, 5, 6, 1, 1) = -1 | count(5) = 6 | count(7) = 0
            """);
        e.onBoth("y 0 .. 7 (y 0 lies on the GROUND)", """
            NEW(0, -1, 1, 1, 1) = -1 | status() = -1
            NEW(0, 0, 1, 1, 1) = 0 | status() = 0
            NEW(0, 7, 1, 1, 1) = 1 | NEW(0, 8, 1, 1, 1) = -1
            NEW(5, -1, 1, 2, 1) = -1 | NEW(5, -5, 1, 6, 1) = -1
            NEW(5, MIN, 1, 6, 1) = -1 | NEW(5, MAX, 1, 6, 1) = -1 | count(5) = 6 | count(7) = 0
            """);
        e.onBoth("so WIDE and so TALL (1 .. 6 each;", """
            NEW(0, 0, 0, 1, 1) = -1 | NEW(0, 0, 1, 1, 1) = 0
            NEW(0, 1, 6, 1, 1) = 1 | NEW(0, 2, 7, 1, 1) = -1 | NEW(0, 2, -1, 1, 1) = -1
            NEW(8, 0, 1, 0, 1) = -1 | NEW(8, 0, 1, 6, 1) = 2 | NEW(9, 0, 1, 7, 1) = -1 | NEW(9, 0, 1, 1, 1) = 3
            NEW(10, 0, 1, -1, 1) = -1 | NEW(0, 2, MAX, 1, 1) = -1 | NEW(5, 2, MAX, 1, 1) = -1
            NEW(0, 2, MIN, 1, 1) = -1 | NEW(0, 2, 1, MAX, 1) = -1 | NEW(0, 5, 1, MAX, 1) = -1
            NEW(0, 2, 1, MIN, 1) = -1 | count(5) = 12
            """);
        e.onBoth("within the GRID", """
            NEW(6, 0, 6, 1, 1) = 0 | NEW(7, 1, 6, 1, 1) = -1 | NEW(7, 1, 5, 1, 1) = 1
            NEW(10, 2, 2, 1, 1) = 2 | NEW(11, 3, 2, 1, 1) = -1 | NEW(11, 3, 1, 1, 1) = 3
            """);
        e.onBoth("within the GRID", """
            NEW(0, 2, 1, 6, 1) = 0 | NEW(1, 3, 1, 6, 1) = -1 | NEW(1, 3, 1, 5, 1) = 1
            NEW(2, 6, 1, 2, 1) = 2 | NEW(3, 7, 1, 2, 1) = -1 | NEW(3, 7, 1, 1, 1) = 3
            """);
        e.on(2, "-1 (out of the GRID, too)", """
            stone(12, 7, 1, 1, 1) = -1 | stone(11, 7, 2, 1, 1) = -1 | stone(11, 7, 1, 2, 1) = -1
            status() = -1 | count(5) = 3 | count(0) = 0 | there() = 0 | stone(11, 7, 1, 1, 1) = 0 | there() = 1
            """);
        e.onBoth("WEIGHT 1 .. 99", """
            NEW(0, 0, 1, 1, 0) = -1 | NEW(0, 0, 1, 1, 1) = 0 | NEW(1, 0, 1, 1, 99) = 1 | NEW(2, 0, 1, 1, 100) = -1
            NEW(2, 0, 1, 1, -1) = -1 | NEW(2, 0, 1, 1, MIN) = -1 | NEW(2, 0, 1, 1, MAX) = -1 | count(5) = 5
            """);
    }

    /** Around cells 4 to 6 of courses 3 and 4. */
    private static void others(Edges e) {
        e.onBoth("on no CELL of another one", """
            NEW(4, 3, 3, 2, 1) = 0
            NEW(3, 2, 2, 2, 1) = -3 | NEW(6, 2, 2, 2, 1) = -3 | NEW(3, 4, 2, 2, 1) = -3 | NEW(6, 4, 2, 2, 1) = -3
            NEW(5, 3, 1, 1, 1) = -3 | NEW(3, 2, 5, 4, 1) = -3 | NEW(4, 3, 3, 2, 1) = -3 // within, around, just there
            NEW(5, 1, 1, 6, 1) = -3 | NEW(2, 4, 6, 1, 1) = -3 // across
            status() = -3 | count(7) = 9
            NEW(3, 2, 1, 1, 1) = 1 | NEW(7, 2, 1, 1, 1) = 2 | NEW(3, 5, 1, 1, 1) = 3 // at its corners
            """);
        e.onBoth("on no CELL of another one, SPARE ones neither", """
            NEW(4, 3, 3, 2, 1) = 0 | NEW(7, 5, 1, 1, 1) = 1
            NEW(2, 3, 2, 2, 1) = 2 | NEW(7, 3, 2, 2, 1) = 3 | NEW(4, 1, 3, 2, 1) = 4 | NEW(4, 5, 3, 2, 1) = 5
            count(7) = 0 // by its sides
            """);
        e.on(2, "-3 another one (away, SPARE, too) has a CELL of it", """
            stone(0, 0, 2, 1, 1) = 0 | stone(1, 0, 1, 1, 1) = -3
            stand(0) = 1 | stone(1, 0, 1, 1, 1) = -3 | stone(2, 0, 1, 1, 1) = 1
            take(0) = 1 | there() = 0 | stone(2, 0, 1, 1, 1) = -3 // it fell
            spare(3, 0, 2, 1, 1) = 0 | stone(4, 0, 1, 1, 1) = -3 | stone(5, 0, 1, 1, 1) = 2
            status() = 0 | count(7) = 4
            """);
        e.on(3, "-3 as for stone()", """
            stone(0, 0, 2, 1, 1) = 0 | spare(1, 0, 1, 1, 1) = -3 | status() = -3
            stand(0) = 1 | spare(1, 0, 1, 1, 1) = -3 | spare(2, 0, 2, 1, 1) = 0 | status() = 0
            spare(3, 0, 1, 1, 1) = -3 | spare(4, 0, 1, 1, 1) = 1 | count(7) = 3 | count(2) = 2
            """);
    }

    private static void stone(Edges e) {
        e.on(2, "A STONE, there: its number.", """
            stone(0, 0, 1, 1, 1) = 0 | there() = 1 | of(0, 7) = 1 | stand(0) = 1
            stone(2, 0, 1, 1, 1) = 1 | there() = 2 | of(0, 7) = 0 | of(1, 7) = 1
            stone(2, 0, 1, 1, 1) = -3 | stone(4, 0, 1, 1, 0) = -1 | count(0) = 2
            stone(4, 0, 1, 1, 1) = 2 | there() = 6 | count(0) = 3 | count(1) = 2
            """);
        e.on(2, "FARM 0 .. 3, FROST 0 .. 100", "stone(0, 0, 1, 1, 1) = 0 | of(0, 5) = 0 | of(0, 6) = 0");
        e.on(2, "STONES 0 .. 13 (14 at most)", some(13), """
            stone(9, 5, 1, 1, 1) = 13 | status() = 0 | count(0) = 14 | there() = 16383
            stone(10, 5, 1, 1, 1) = -5 | status() = -5 | count(0) = 14 | count(8) = 1
            stand(0) = 16383 | stone(10, 5, 1, 1, 1) = -5 // those that are away have their room, too
            spare(10, 5, 1, 1, 1) = 0
            """);
        e.on(2, "The first of these in that order.", fourteen(), """
            stone(0, 0, 1, 1, 1) = -3 | stone(0, 0, 1, 1, 100) = -1 | stone(10, 5, 1, 1, 0) = -1
            stone(10, 5, 1, 1, 1) = -5 | count(5) = 2 | count(7) = 1 | count(8) = 1 | status() = -5
            """);
        e.on(2, "The first of these in that order.",
            "stone(0, 0, 1, 1, 1) = 0 | stone(0, 0, 1, 1, 0) = -1 | stone(0, 0, 7, 1, 1) = -1",
            "stone(0, 0, 1, 1, 1) = -3");
    }

    private static void spare(Edges e) {
        e.on(3, "A SPARE STONE: its number.", """
            spare(0, 0, 1, 1, 1) = 0 | stone(1, 0, 1, 1, 1) = 0 | spare(0, 0, 1, 1, 1) = -3
            spare(3, 0, 0, 1, 1) = -1 | spare(2, 0, 1, 1, 1) = 1 | stone(3, 0, 1, 1, 1) = 1 | count(2) = 2
            count(0) = 2
            """);
        e.on(3, "SPARE are STONES 0 .. 7 more (8 at most)", someSpares(7), """
            spare(9, 5, 1, 1, 1) = 7 | status() = 0 | count(2) = 8
            spare(10, 5, 1, 1, 1) = -5 | status() = -5 | count(2) = 8 | count(8) = 1 | stone(10, 5, 1, 1, 1) = 0
            """);
        e.on(3, "SPARE are STONES 0 .. 7 more (8 at most)", fourteen(), someSpares(8),
            "count(0) = 14 | count(2) = 8 | spare(10, 5, 1, 1, 1) = -5 | stone(10, 5, 1, 1, 1) = -5");
        e.on(3, "The first of these in that order.", someSpares(8), """
            spare(0, 7, 1, 1, 1) = -3 | spare(0, 7, 1, 1, 100) = -1 | spare(10, 5, 1, 1, 0) = -1
            spare(10, 5, 1, 1, 1) = -5 | count(5) = 2 | count(7) = 1 | count(8) = 1
            """);
        e.on(3, "that are not in the WALL", """
            terms(0, 0) = 5 | stone(3, 0, 1, 1, 1) = 0 | spare(4, 0, 1, 1, 1) = 0
            there() = 1 | count(0) = 1 | at(4, 0) = -1 | at(3, 0) = 0 | of(1, 0) = -1 | of(14, 0) = -1
            touches(0, 1) = 2 | touches(0, 3) = 0 | touches(14, 0) = -1 | put(14, 0, 5) = -2 | put(1, 0, 5) = -2
            stand(0b11) = -1 | stand(0b100000000000000) = -1 | falls(0b100000000000000, 0) = -1
            gate(4, 0, 4, 0, 1) = 0 | gate(0, 0, 11, 7, 1) = 1 | once(3) = 1 | fell(0) = 1 | game(2) = 0
            winters(0, 2) = 1 | winter(1) = 1
            stone(5, 0, 1, 1, 1) = 1 // a stone there
            touches(1, 1) = 2 | there() = 3 | at(5, 0) = 1
            """);
    }

    private static void put(Edges e) {
        e.on(4, "WEIGHT (what 0)", """
            stone(0, 0, 1, 1, 50) = 0 | put(0, 0, 0) = -1 | of(0, 4) = 50 | put(0, 0, 1) = 50 | of(0, 4) = 1
            put(0, 0, 99) = 1 | put(0, 0, 100) = -1 | put(0, 0, -1) = -1 | put(0, 0, MIN) = -1 | put(0, 0, MAX) = -1
            of(0, 4) = 99 | of(0, 5) = 0 | of(0, 6) = 0 | count(5) = 5
            """);
        e.on(4, "FARM (1)", """
            stone(0, 0, 1, 1, 50) = 0 | put(0, 1, -1) = -1 | put(0, 1, 0) = 0 | put(0, 1, 3) = 0 | put(0, 1, 4) = -1
            status() = -1 | of(0, 5) = 3 | put(0, 1, 1) = 3 | status() = 0 | put(0, 1, MIN) = -1 | put(0, 1, MAX) = -1
            of(0, 5) = 1 | of(0, 4) = 50 | of(0, 6) = 0
            """);
        e.on(4, "FROST (2)", """
            stone(0, 0, 1, 1, 50) = 0 | put(0, 2, -1) = -1 | put(0, 2, 0) = 0 | put(0, 2, 100) = 0
            put(0, 2, 101) = -1 | of(0, 6) = 100 | put(0, 2, 1) = 100 | put(0, 2, MIN) = -1 | put(0, 2, MAX) = -1
            of(0, 6) = 1 | of(0, 4) = 50 | of(0, 5) = 0
            """);
        e.on(4, "of a STONE: what it was. -1; -2.", """
            stone(0, 0, 1, 1, 50) = 0 | put(0, -1, 1) = -1 | put(0, 3, 1) = -1 | put(0, MIN, 1) = -1
            put(0, MAX, 1) = -1 | put(-1, 0, 1) = -2 | status() = -2 | put(0, 0, 1) = 50 | status() = 0
            put(1, 0, 1) = -2 | put(13, 0, 1) = -2 | put(14, 0, 1) = -2 | put(MIN, 0, 1) = -2 | put(MAX, 0, 1) = -2
            put(32, 0, 1) = -2 | count(5) = 4 | count(6) = 7 | stone(1, 0, 1, 1, 7) = 1 | put(1, 0, 8) = 7
            put(2, 0, 1) = -2 | stand(0) = 3 | put(1, 0, 9) = 8 // one that is away, too
            """);
        e.on(4, "of a STONE: what it was. -1; -2.", fourteen(), someSpares(1),
            "put(13, 0, 2) = 1 | put(14, 0, 2) = -2 | put(13, 0, 3) = 2");
        e.on(4, "The first of these in that order.", """
            put(0, 0, 0) = -1 | put(0, 0, 1) = -2 | put(0, 3, 1) = -1 | put(0, 2, 1) = -2 | put(-1, 1, 4) = -1
            put(-1, 1, 3) = -2 | put(0, 2, 101) = -1 | put(0, 2, 100) = -2 | count(5) = 4 | count(6) = 4
            """);
    }

    private static void of(Edges e) {
        e.on(5, "0 x, 1 y, 2 WIDE, 3 TALL, 4 WEIGHT, 5 FARM, 6 FROST, 7 whether it is there (1, 0). NONE.", """
            stone(9, 1, 2, 3, 4) = 0 | put(0, 1, 3) = 0 | put(0, 2, 100) = 0
            of(0, -1) = -1 | of(0, 0) = 9 | of(0, 1) = 1 | of(0, 2) = 2 | of(0, 3) = 3 | of(0, 4) = 4 | of(0, 5) = 3
            of(0, 6) = 100 | of(0, 7) = 1 | of(0, 8) = -1 | of(0, MIN) = -1 | of(0, MAX) = -1
            stand(0) = 1 | of(0, 7) = 0 | of(0, 0) = 9 | of(0, 6) = 100 | of(0, 8) = -1
            count(5) = 0 | status() = 0 // a question is not refused
            """);
        e.on(5, "Of a STONE", """
            stone(9, 1, 2, 3, 4) = 0 | spare(0, 0, 1, 1, 7) = 0
            of(-1, 4) = -1 | of(0, 4) = 4 | of(1, 4) = -1 | of(14, 4) = -1 | of(MIN, 4) = -1 | of(MAX, 4) = -1
            of(32, 4) = -1 | of(32, 7) = -1 | of(-32, 7) = -1
            """);
        e.on(5, "Of a STONE", fourteen(), someSpares(1),
            "of(13, 0) = 6 | of(13, 7) = 1 | of(14, 0) = -1 | of(14, 7) = -1");
    }

    private static void terms(Edges e) {
        e.on(6, "0 NEED 0 .. 12 (5 at first)", """
            terms(0, -1) = -1 | status() = -1 | terms(0, 13) = -1 | count(11) = 5 | terms(0, 0) = 5 | status() = 0
            terms(0, 12) = 0 | terms(0, 13) = -1 | terms(0, MIN) = -1 | terms(0, MAX) = -1 | count(11) = 12
            count(12) = 2 | count(13) = 1 | stone(3, 0, 1, 1, 1) = 0 | touches(0, 0) = 12
            """);
        e.on(6, "1 GROUND 0 .. 9 (2)", """
            terms(1, -1) = -1 | terms(1, 10) = -1 | count(12) = 2 | terms(1, 0) = 2 | terms(1, 9) = 0
            terms(1, 10) = -1 | terms(1, MIN) = -1 | terms(1, MAX) = -1 | count(12) = 9 | count(11) = 5
            count(13) = 1 | stone(3, 0, 1, 1, 1) = 0 | touches(0, 1) = 9
            """);
        e.on(6, "2 SIDE 0 .. 9 (1)", """
            terms(2, -1) = -1 | terms(2, 10) = -1 | count(13) = 1 | terms(2, 0) = 1 | terms(2, 9) = 0
            terms(2, 10) = -1 | terms(2, MIN) = -1 | terms(2, MAX) = -1 | count(13) = 9 | count(11) = 5
            count(12) = 2 | stone(0, 3, 1, 1, 1) = 0 | touches(0, 1) = 9
            """);
        e.on(6, "A TERM: what it was. -1.", """
            terms(-1, 1) = -1 | terms(3, 1) = -1 | terms(MIN, 1) = -1 | terms(MAX, 1) = -1 | count(5) = 4
            terms(0, 1) = 5 | terms(1, 1) = 2 | terms(2, 2) = 1 | terms(0, 3) = 1 | terms(1, 3) = 1 | terms(2, 3) = 2
            status() = 0 | terms(3, 0) = -1 | status() = -1
            """);
    }

    private static void at(Edges e) {
        e.on(14, "The STONE in a CELL that is there. NONE.", """
            stone(4, 3, 3, 2, 1) = 0 | stone(7, 3, 1, 1, 1) = 1
            at(4, 3) = 0 | at(6, 3) = 0 | at(4, 4) = 0 | at(6, 4) = 0
            at(3, 3) = -1 | at(7, 3) = 1 | at(3, 4) = -1 | at(7, 4) = -1
            at(4, 2) = -1 | at(6, 2) = -1 | at(4, 5) = -1 | at(6, 5) = -1
            stand(2) = 3 | at(4, 3) = -1 | at(7, 3) = 1 | spare(0, 0, 1, 1, 1) = 0 | at(0, 0) = -1
            """);
        e.on(14, "The STONE in a CELL that is there. NONE.", """
            stone(0, 0, 1, 1, 1) = 0 | stone(11, 0, 1, 1, 1) = 1 | stone(0, 7, 1, 1, 1) = 2
            stone(11, 7, 1, 1, 1) = 3 | at(0, 0) = 0 | at(11, 0) = 1 | at(0, 7) = 2 | at(11, 7) = 3
            at(-1, 0) = -1 | at(12, 0) = -1 | at(0, -1) = -1 | at(0, 8) = -1 | at(12, 7) = -1 | at(11, 8) = -1
            at(MIN, 0) = -1 | at(MAX, 7) = -1 | at(0, MIN) = -1 | at(11, MAX) = -1 | count(5) = 0
            """);
    }

    private static void thereAndStand(Edges e) {
        e.on(17, "STONES that are there, as bits.", "there() = 0", some(13), """
            there() = 0b1111111111111 | stone(9, 5, 1, 1, 1) = 13 | there() = 0b11111111111111
            stand(0b10000000000001) = 16383 | there() = 0b10000000000001 | take(0b1) = 2 | there() = 0
            """);
        e.on(18, "-1 (others than STONES)", "stand(0) = 0 | stand(1) = -1", """
            stone(0, 0, 1, 1, 1) = 0 | stone(5, 5, 1, 1, 1) = 1 | stand(0b11) = 3 | stand(0b100) = -1
            stand(0b101) = -1 | status() = -1 | there() = 3 | stand(0) = 3 | status() = 0 | stand(-1) = -1
            stand(MIN) = -1 | stand(MAX) = -1 | there() = 0 | stand(0b10) = 0 | count(5) = 6
            """);
        e.on(18, "-1 (others than STONES)", fourteen(), """
            stand(16383) = 16383 | stand(16384) = -1 | stand(0b10000000000000) = 16383 | stand(32767) = -1
            there() = 0b10000000000000 | spare(0, 7, 1, 1, 1) = 0 | stand(16384) = -1
            """);
        e.on(18, "STONES are there just as told (bits): which were.", """
            stone(5, 5, 1, 1, 1) = 0 | stone(7, 5, 1, 1, 1) = 1 | stand(0) = 3 | stand(0b01) = 0 | stand(0b11) = 1
            unlawful() = 0 | there() = 3 // none falls by that
            stand(0b10) = 3 | unlawful() = 1 | there() = 2
            """);
    }
}
