/** Promises 33 to 36: image, back, count, status. */
final class ImageEdges {
    private static final String LATEST =
        "What the latest call of stone, spare, put, terms, row, law, force, stand, take, winters, image, back was "
            + "REFUSED by";

    private ImageEdges() {
    }

    static void run(Edges e) {
        image(e);
        back(e);
        keeps(e);
        count(e);
        refusals(e);
        status(e);
        calls(e);
    }

    private static void image(Edges e) {
        e.on(33, "IMAGE k is kept: 0; -1.", """
            image(-1) = -1 | status() = -1 | image(0) = 0 | status() = 0 | image(1) = 0 | image(2) = -1
            image(MIN) = -1 | image(MAX) = -1 | status() = -1 | count(5) = 4 | back(0) = 0 | back(1) = 0
            """);
        e.on(33, "IMAGE k is kept: 0; -1.", """
            image(0) = 0 | stone(0, 0, 1, 1, 1) = 0 | image(1) = 0 | back(0) = 0 | count(0) = 0 | back(1) = 0
            count(0) = 1 | stone(2, 0, 1, 1, 1) = 1 | image(0) = 0 | back(1) = 0 | count(0) = 1 | back(0) = 0
            count(0) = 2 // kept anew
            image(2) = -1 | back(0) = 0 | count(0) = 2
            """);
    }

    private static void back(Edges e) {
        e.on(34, "BACK to IMAGE k: 0. -1; -2 it was not kept.", """
            back(-1) = -1 | status() = -1 | back(0) = -2 | status() = -2 | back(1) = -2 | back(2) = -1
            back(MIN) = -1 | back(MAX) = -1 | image(1) = 0 | back(0) = -2 | back(1) = 0 | status() = 0 | back(2) = -1
            image(0) = 0 | back(0) = 0 | count(5) = 5 | count(6) = 3
            """);
        e.on(34, "BACK to IMAGE k: 0. -1; -2 it was not kept.",
            "stone(0, 0, 1, 1, 1) = 0 | back(0) = -2 | back(2) = -1 | count(0) = 1");
        e.on(34, "(IMAGES stay)", """
            stone(0, 0, 1, 1, 5) = 0 | image(0) = 0 | put(0, 0, 6) = 5 | back(0) = 0 | of(0, 4) = 5 | put(0, 0, 7) = 5
            back(0) = 0 | of(0, 4) = 5 | image(1) = 0 | put(0, 0, 8) = 5 | back(1) = 0 | of(0, 4) = 5
            put(0, 0, 9) = 5 | back(0) = 0 | of(0, 4) = 5 | stone(2, 0, 1, 1, 1) = 1 | take(1) = 2 | back(1) = 0
            there() = 1 | count(0) = 1
            """);
    }

    private static void keeps(Edges e) {
        e.on(34, "BACK to one all that it keeps is as it was then", """
            stone(0, 0, 2, 1, 5) = 0 | stone(3, 3, 1, 2, 6) = 1 | spare(9, 0, 1, 1, 1) = 0 | put(1, 1, 2) = 0
            put(1, 2, 50) = 0 | terms(0, 3) = 5 | terms(1, 4) = 2 | terms(2, 6) = 1 | stand(0b10) = 3
            law{needs 7} = 0
            force(0) = -1 | image(0) = 0
            put(1, 0, 9) = 6 | put(1, 1, 3) = 2 | put(1, 2, 60) = 50 | terms(0, 1) = 3 | terms(1, 1) = 4
            terms(2, 1) = 6 | stand(0b01) = 2
            law{needs 8} = 1
            force(1) = 0 | stone(5, 5, 1, 1, 1) = 2 | spare(10, 0, 1, 1, 1) = 1 | touches(0, 0) = 8
            back(0) = 0 | count(0) = 2 | count(1) = 1 | count(2) = 1 | count(3) = 1 | count(10) = 0 | count(11) = 3
            count(12) = 4 | count(13) = 6 | there() = 2 | of(1, 0) = 3 | of(1, 1) = 3 | of(1, 2) = 1 | of(1, 3) = 2
            of(1, 4) = 6 | of(1, 5) = 2 | of(1, 6) = 50 | of(2, 0) = -1 | touches(0, 0) = 7 | touches(1, 1) = 0
            force(1) = -2 | at(5, 5) = -1 | stone(5, 5, 1, 1, 1) = 2
            spare(10, 0, 1, 1, 1) = 1 // their places are free again
            law{needs 9} = 1
            force(1) = 0 | touches(0, 0) = 9
            """);
        e.on(34, "IMAGES 0, 1 keep all but the TAPE, FAULT, RUBBLE, the latest WINTERS", """
            image(0) = 0 | terms(0, 0) = 5 | stone(3, 0, 1, 1, 1) = 0 | winters(0, 2) = 1
            law{needs !} = -6
            fed{%01} = 1
            row() = 0 | feed(0, 0, 0, 0, 0) = 20
            back(0) = 0 | count(4) = 20 | fault() = 6 | rubble() = 1 | winter(1) = 1 | winter(2) = -1 | count(0) = 0
            image(1) = 0 | end(7) = 7 | back(1) = 0 | count(4) = 7 | row() = 0 | rubble() = 2 | back(1) = 0
            count(4) = 0 | rubble() = 2
            """);
        e.on(34, "BACK to one all that it keeps is as it was then", "image(0) = 0", StoneEdges.fourteen(),
            StoneEdges.someSpares(8),
            "law{bound} = 0", "law{bound} = 1", "law{bound} = 2", "law{bound} = 3", "law{bound} = 4", "law{bound} = 5",
            """
            stone(9, 5, 1, 1, 1) = -5 | spare(9, 5, 1, 1, 1) = -5 | law() = -5 | image(1) = 0
            back(0) = 0 // there is room again
            stone(9, 5, 1, 1, 1) = 0 | spare(0, 7, 1, 1, 1) = 0 | there() = 1 | of(0, 5) = 0
            law{needs 1} = 0
            back(1) = 0 | count(0) = 14 | count(2) = 8 | count(3) = 6 | stone(9, 5, 1, 1, 1) = -5
            spare(9, 5, 1, 1, 1) = -5 | law() = -5 | force(0) = -1 | touches(13, 2) = 1 | there() = 16383
            """);
        e.on(34, "BACK to one all that it keeps is as it was then", "image(1) = 0", otherPlaces(1),
            "image(0) = 0 | back(1) = 0", otherPlaces(0),
            "image(1) = 0 | back(0) = 0", asOtherPlaces(1), "back(1) = 0", asOtherPlaces(0));
        e.on(34, "BACK to one all that it keeps is as it was then",
            "image(0) = 0 | stone(0, 0, 1, 1, 1) = 0 | put(0, 1, 3) = 0 | put(0, 2, 9) = 0",
            "stand(0) = 1 | back(0) = 0 | stone(2, 0, 1, 1, 1) = 0 | of(0, 0) = 2 | of(0, 5) = 0 | of(0, 6) = 0",
            "of(0, 7) = 1");
    }

    /** As many stones and spare ones as there can be, with other facts for each image. */
    private static String otherPlaces(int k) {
        StringBuilder run = new StringBuilder();
        for (int i = 0; i < 14; i++) {
            run.append("stone(" + (i % 7 + 5 * k) + ", " + (i / 7 + 5 * k) + ", 1, 1, " + (1 + i + k) + ") = " + i
                + "\n");
            run.append("put(" + i + ", 1, " + (i + k) % 4 + ") = 0 | put(" + i + ", 2, " + (i + k) + ") = 0\n");
        }
        for (int i = 0; i < 8; i++) {
            run.append("spare(" + (i + 4 * k) + ", 3, 1, 1, 1) = " + i + "\n");
        }
        return run.toString();
    }

    private static String asOtherPlaces(int k) {
        StringBuilder run = new StringBuilder("count(0) = 14 | count(2) = 8 | there() = 16383\n");
        for (int i = 0; i < 14; i++) {
            int[] facts = {i % 7 + 5 * k, i / 7 + 5 * k, 1, 1, 1 + i + k, (i + k) % 4, i + k, 1};
            for (int what = 0; what < 8; what++) {
                run.append("of(" + i + ", " + what + ") = " + facts[what] + "\n");
            }
        }
        for (int x = 0; x < 12; x++) {
            run.append("spare(" + x + ", 3, 1, 1, 1) = " + (x >= 4 * k && x < 8 + 4 * k ? -3 : -5) + "\n");
        }
        return run.toString();
    }

    private static void count(Edges e) {
        e.on(35, "0 STONES, 1 of these there, 2 SPARE, 3 LAWS, 4 bytes of the TAPE", """
            stone(0, 0, 1, 1, 1) = 0 | stone(2, 0, 1, 1, 1) = 1 | stone(4, 0, 1, 1, 1) = 2 | stand(0b101) = 7
            spare(6, 0, 1, 1, 1) = 0
            law{bound} = 0
            law{bound} = 1
            law{bound} = 2
            law{bound} = 3
            feed(0, 0, 0, 0, 0) = 20 | end(5) = 5
            count(-1) = -1 | count(0) = 3 | count(1) = 2 | count(2) = 1 | count(3) = 4 | count(4) = 5
            """);
        e.on(35, "10 the LAW in FORCE, 11 .. 13 TERMS 0 .. 2. NONE for others.", """
            count(10) = -1 | count(11) = 5 | count(12) = 2 | count(13) = 1 | count(14) = -1 | count(-1) = -1
            count(MIN) = -1 | count(MAX) = -1 | terms(0, 12) = 5 | terms(1, 9) = 2 | terms(2, 8) = 1
            law{bound} = 0
            law{bound} = 1
            force(1) = -1 | count(10) = 1 | count(11) = 12 | count(12) = 9 | count(13) = 8 | count(14) = -1
            force(0) = 1 | count(10) = 0
            """);
        e.on(35, "(IMAGES do not keep that)", """
            image(0) = 0 | image(2) = -1 | put(0, 0, 1) = -2 | row() = -6 | count(5) = 1 | count(6) = 1 | count(9) = 1
            back(0) = 0 | count(5) = 1 | count(6) = 1 | count(9) = 1 | image(0) = 0 | back(0) = 0 | count(5) = 1
            """);
    }

    private static void refusals(Edges e) {
        e.on(35, "5 .. 9 how many calls were REFUSED by -1, -2, -3, -5, -6", """
            count(5) = 0 | count(6) = 0 | count(7) = 0 | count(8) = 0 | count(9) = 0
            stone(0, 0, 1, 1, 0) = -1 | count(5) = 1 | spare(0, 0, 1, 1, 0) = -1 | count(5) = 2 | put(0, 0, 0) = -1
            count(5) = 3 | terms(0, 13) = -1 | count(5) = 4 | stand(1) = -1 | count(5) = 5 | take(1) = -1
            count(5) = 6 | winters(0, 0) = -1 | count(5) = 7 | image(2) = -1 | count(5) = 8 | back(2) = -1
            count(5) = 9 | count(6) = 0 | count(7) = 0 | count(8) = 0 | count(9) = 0 | put(0, 0, 1) = -2
            count(6) = 1 | force(0) = -2 | count(6) = 2 | back(0) = -2 | count(6) = 3 | count(5) = 9 | count(7) = 0
            row() = -6 | count(9) = 1 | law() = -6 | count(9) = 2 | count(8) = 0
            """);
        e.on(35, "5 .. 9 how many calls were REFUSED by -1, -2, -3, -5, -6", StoneEdges.fourteen(),
            StoneEdges.someSpares(8), """
            stone(0, 0, 1, 1, 1) = -3 | count(7) = 1 | spare(0, 0, 1, 1, 1) = -3 | count(7) = 2
            stone(9, 5, 1, 1, 1) = -5 | count(8) = 1 | spare(9, 5, 1, 1, 1) = -5 | count(8) = 2 | count(5) = 0
            count(6) = 0 | count(9) = 0
            law{bound} = 0
            law{bound} = 1
            law{bound} = 2
            law{bound} = 3
            law{bound} = 4
            law{bound} = 5
            count(8) = 2 | law() = -5 | count(8) = 3 | count(9) = 0
            """);
        e.on(35, "5 .. 9 how many calls were REFUSED by -1, -2, -3, -5, -6", """
            of(0, 0) = -1 | end(1) = -1 | at(0, 0) = -1 | touches(0, 0) = -1 | falls(1, 0) = -1 | round(0, 0) = -1
            farm(0, 4) = -1 | once(4) = -1 | oneByOne(4) = -1 | order(0) = -1 | fell(3) = -1
            gate(1, 0, 0, 0, 0) = -1 | mend(3) = -1 | game(3) = -1 | night(1, 0) = -1 | winter(0) = -1
            count(14) = -1 | force(-1) = -1 | unlawful() = -1 | fault() = -1
            count(5) = 0 // NONE is an answer, no refusal
            """);
    }

    private static void status(Edges e) {
        e.on(36, "0 if it was not, or ahead of any.", "status() = 0 | of(0, 0) = -1 | end(1) = -1 | status() = 0",
            "stone(0, 0, 1, 1, 0) = -1 | status() = -1 | status() = -1 | stone(0, 0, 1, 1, 1) = 0 | status() = 0");
        String[] good = {"stone(0, 0, 1, 1, 1) = 0", "spare(0, 0, 1, 1, 1) = 0", "terms(0, 5) = 5", "force(-1) = -1",
            "stand(0) = 0", "take(0) = 0", "winters(0, 1) = 0", "image(0) = 0"};
        for (String call : good) {
            e.on(36, LATEST, "row() = -6 | status() = -6 | " + call + " | status() = 0");
        }
        String[] bad = {"stone(0, 0, 1, 1, 0) = -1", "stone(9, 0, 1, 1, 1) = -3", "spare(0, 0, 1, 1, 0) = -1",
            "spare(9, 0, 1, 1, 1) = -3", "put(0, 3, 0) = -1", "put(1, 0, 1) = -2", "terms(3, 0) = -1", "row() = -6",
            "law() = -6", "force(0) = -2", "stand(2) = -1", "take(2) = -1", "winters(0, 0) = -1",
            "image(2) = -1", "back(2) = -1", "back(1) = -2"};
        for (String call : bad) {
            e.on(36, LATEST,
                "stone(9, 0, 1, 1, 1) = 0 | status() = 0 | " + call + " | status() = " + call.replaceAll(".* = ", ""));
        }
        e.on(36, LATEST, """
            stone(9, 0, 1, 1, 1) = 0 | row() = -6 | put(0, 0, 2) = 1 | status() = 0 | row() = -6
            fed{%00} = 1
            status() = -6 | row() = 0 | status() = 0 | row() = -6
            fed{bound} = 5
            status() = -6 | law() = 0 | status() = 0 | row() = -6 | image(0) = 0 | row() = -6 | back(0) = 0
            status() = 0
            """);
        e.on(36, LATEST, """
            stone(9, 0, 1, 1, 1) = 0 | row() = -6 | of(0, 0) = 9 | of(5, 5) = -1 | feed(0, 0, 0, 0, 0) = 20
            end(21) = -1 | end(0) = 0 | rubble() = 0 | fault() = -1 | at(9, 0) = 0 | touches(0, 1) = 2
            unlawful() = 0 | there() = 1 | falls(0, 0) = 1 | falls(2, 0) = -1 | round(0, 0) = 1 | farm(0, 0) = 1
            once(0) = -1 | oneByOne(3) = 0 | order(0) = -1 | fell(0) = 0 | gate(0, 0, 1, 1, 0) = 1 | mend(0) = -1
            game(0) = 0 | night(1, 0) = 0 | night(0, 0) = 1 | winter(0) = -1 | count(9) = 1 | status() = -6
            """);
    }

    /** The 512 calls that an object is used for. */
    private static void calls(Edges e) {
        StringBuilder run = new StringBuilder();
        for (int i = 0; i < 510; i++) {
            run.append("row() = -6\n");
        }
        e.on(35, "An object is used for at most 512 calls after it has been made", run.toString(),
            "count(9) = 510 | status() = -6");
    }
}
