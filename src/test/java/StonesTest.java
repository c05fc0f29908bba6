/** Promises 1 to 6, 14, 17, 18: the new object, stone, spare, put, of, terms, at, there, stand. */
public final class StonesTest {
    private static final Check CHECK = new Check("StonesTest");

    public static void main(String[] args) {
        testNew();
        testStone();
        testStoneRoom();
        testSpare();
        testPut();
        testOf();
        testTerms();
        testAt();
        testThereAndStand();
        CHECK.close();
    }

    private static void due(String what, long got, long want) {
        CHECK.due(what, got, want);
    }

    private static void testNew() {
        FiveTouch x = new FiveTouch();
        int[] counts = {0, 0, 0, 0, 0, 0, 0, 0, 0, 0, -1, 5, 2, 1};
        for (int i = 0; i < counts.length; i++) {
            due("new, count " + i, x.count(i), counts[i]);
        }
        due("new, there", x.there(), 0);
        due("new, status", x.status(), 0);
        due("new, fault", x.fault(), FiveTouch.NONE);
        due("new, rubble", x.rubble(), 0);
        due("new, winter", x.winter(0), FiveTouch.NONE);
        due("new, of", x.of(0, 0), FiveTouch.NONE);
        due("new, back", x.back(0), -2);
    }

    private static void testStone() {
        FiveTouch x = new FiveTouch();
        int[][] wrong = {
            {-1, 0, 1, 1, 1}, {12, 0, 1, 1, 1}, {0, -1, 1, 1, 1}, {0, 8, 1, 1, 1}, {0, 0, 0, 1, 1}, {0, 0, 7, 1, 1},
            {0, 0, 1, 0, 1}, {0, 0, 1, 7, 1}, {0, 0, 1, 1, 0}, {0, 0, 1, 1, 100}, {7, 0, 6, 1, 1}, {0, 3, 1, 6, 1},
            {11, 0, 2, 1, 1}, {0, 7, 1, 2, 1}, {Integer.MAX_VALUE, 0, 6, 1, 1}, {0, Integer.MAX_VALUE, 1, 6, 1},
            {0, 0, Integer.MAX_VALUE, 1, 1}, {Integer.MIN_VALUE, Integer.MIN_VALUE, -1, -1, -1}};
        for (int[] w : wrong) {
            due("a stone that can't be", x.stone(w[0], w[1], w[2], w[3], w[4]), -1);
            due("its status", x.status(), -1);
        }
        due("refused by -1", x.count(5), wrong.length);
        due("widest at the far side", x.stone(6, 2, 6, 6, 99), 0);
        due("status", x.status(), 0);
        due("least", x.stone(0, 0, 1, 1, 1), 1);
        due("on a cell of it", x.stone(5, 1, 2, 2, 5), -3);
        due("beside it", x.stone(5, 1, 1, 2, 5), 2);
        due("away", x.stand(0), 7);
        due("on a cell of one that is away", x.stone(0, 0, 1, 1, 1), -3);
        due("can't be goes ahead of the place", x.stone(0, 0, 1, 1, 0), -1);
        due("a spare one", x.spare(0, 7, 2, 1, 1), 0);
        due("on a cell of a spare one", x.stone(1, 7, 1, 1, 1), -3);
        due("on no cell of it", x.stone(2, 7, 1, 1, 1), 3);
        due("there alone", x.there(), 8);
        due("stones", x.count(0), 4);
    }

    private static void testStoneRoom() {
        FiveTouch x = new FiveTouch();
        for (int i = 0; i < 14; i++) {
            due("stone " + i, x.stone(i % 12, i / 12, 1, 1, 1), i);
        }
        due("the 15th", x.stone(5, 5, 1, 1, 1), -5);
        due("its status", x.status(), -5);
        due("the place goes ahead of the room", x.stone(0, 0, 1, 1, 1), -3);
        due("can't be goes ahead of both", x.stone(0, 0, 1, 1, 100), -1);
        due("refused by -5", x.count(8), 1);
        due("refused by -3", x.count(7), 1);
        due("a spare one still has room", x.spare(5, 5, 1, 1, 1), 0);
        due("all there", x.there(), 16383);
    }

    private static void testSpare() {
        FiveTouch x = new FiveTouch();
        due("a stone", x.stone(0, 0, 3, 1, 5), 0);
        due("on a stone", x.spare(2, 0, 1, 1, 5), -3);
        due("out of the grid", x.spare(10, 0, 3, 1, 5), -1);
        due("too heavy", x.spare(5, 0, 1, 1, 100), -1);
        for (int i = 0; i < 8; i++) {
            due("spare " + i, x.spare(i, 7, 1, 1, 5), i);
        }
        due("on a spare one", x.spare(3, 6, 1, 2, 5), -3);
        due("the ninth", x.spare(8, 7, 1, 1, 5), -5);
        due("not in the wall", x.there(), 1);
        due("no stones", x.count(0), 1);
        due("spare ones", x.count(2), 8);
        due("not in a cell", x.at(0, 7), FiveTouch.NONE);
        due("status", x.status(), -5);
    }

    private static void testPut() {
        FiveTouch x = new FiveTouch();
        x.stone(0, 0, 1, 1, 10);
        due("weight", x.put(0, 0, 99), 10);
        due("weight again", x.put(0, 0, 1), 99);
        due("farm", x.put(0, 1, 3), 0);
        due("farm again", x.put(0, 1, 0), 3);
        due("frost", x.put(0, 2, 100), 0);
        due("frost again", x.put(0, 2, 0), 100);
        int[][] wrong = {{0, 0, 0}, {0, 0, 100}, {0, 1, -1}, {0, 1, 4}, {0, 2, -1}, {0, 2, 101}, {0, 3, 1}, {0, -1, 1},
            {5, 0, 0}, {5, 3, 1}};
        for (int[] w : wrong) {
            due("put that can't be", x.put(w[0], w[1], w[2]), -1);
            due("its status", x.status(), -1);
        }
        due("no such stone", x.put(1, 0, 5), -2);
        due("no such stone below 0", x.put(-1, 0, 5), -2);
        due("no such stone far above", x.put(Integer.MAX_VALUE, 2, 5), -2);
        due("status", x.status(), -2);
        due("refused by -1", x.count(5), wrong.length);
        due("refused by -2", x.count(6), 3);
        x.stand(0);
        due("of one that is away", x.put(0, 0, 7), 1);
        due("status of a put that went", x.status(), 0);
        x.spare(5, 5, 1, 1, 5);
        due("a spare one is no stone", x.put(14, 0, 5), -2);
    }

    private static void testOf() {
        FiveTouch x = new FiveTouch();
        x.stone(3, 2, 5, 4, 42);
        x.put(0, 1, 2);
        x.put(0, 2, 77);
        int[] facts = {3, 2, 5, 4, 42, 2, 77, 1};
        for (int i = 0; i < facts.length; i++) {
            due("of " + i, x.of(0, i), facts[i]);
        }
        x.stand(0);
        due("away", x.of(0, 7), 0);
        due("x of one that is away", x.of(0, 0), 3);
        due("no such fact", x.of(0, 8), FiveTouch.NONE);
        due("no fact below 0", x.of(0, -1), FiveTouch.NONE);
        due("no such stone", x.of(1, 0), FiveTouch.NONE);
        due("no stone below 0", x.of(-1, 0), FiveTouch.NONE);
        x.spare(0, 0, 1, 1, 1);
        due("a spare one is no stone", x.of(14, 0), FiveTouch.NONE);
        due("asking is not refused", x.count(5), 0);
    }

    private static void testTerms() {
        FiveTouch x = new FiveTouch();
        due("need", x.terms(0, 12), 5);
        due("ground", x.terms(1, 9), 2);
        due("side", x.terms(2, 9), 1);
        due("need to 0", x.terms(0, 0), 12);
        due("ground to 0", x.terms(1, 0), 9);
        due("side to 0", x.terms(2, 0), 9);
        int[][] wrong = {{0, 13}, {0, -1}, {1, 10}, {1, -1}, {2, 10}, {2, -1}, {3, 0}, {-1, 0}};
        for (int[] w : wrong) {
            due("terms that can't be", x.terms(w[0], w[1]), -1);
            due("their status", x.status(), -1);
        }
        due("refused by -1", x.count(5), wrong.length);
        due("status", x.status(), -1);
        due("as they were", x.count(11) + x.count(12) + x.count(13), 0);
        due("fine again", x.terms(0, 4), 0);
        due("status", x.status(), 0);
        due("count tells it", x.count(11), 4);
    }

    private static void testAt() {
        FiveTouch x = new FiveTouch();
        x.stone(2, 1, 3, 2, 5);
        x.stone(5, 1, 1, 1, 5);
        due("first cell", x.at(2, 1), 0);
        due("last cell", x.at(4, 2), 0);
        due("beside", x.at(5, 1), 1);
        due("above that", x.at(5, 2), FiveTouch.NONE);
        due("left of it", x.at(1, 1), FiveTouch.NONE);
        due("below it", x.at(2, 0), FiveTouch.NONE);
        x.stand(2);
        due("away", x.at(2, 1), FiveTouch.NONE);
        due("out of the grid", x.at(-1, 1), FiveTouch.NONE);
        due("far out", x.at(Integer.MAX_VALUE, Integer.MIN_VALUE), FiveTouch.NONE);
    }

    private static void testThereAndStand() {
        FiveTouch x = new FiveTouch();
        due("none of none", x.stand(0), 0);
        due("one of none", x.stand(1), -1);
        x.stone(0, 0, 1, 1, 1);
        x.stone(5, 5, 1, 1, 1);
        x.stone(3, 3, 1, 1, 1);
        due("there", x.there(), 7);
        due("stand", x.stand(5), 7);
        due("there then, none falls by itself", x.there(), 5);
        due("stand again", x.stand(2), 5);
        due("others than stones", x.stand(8), -1);
        due("status", x.status(), -1);
        due("below 0", x.stand(-1), -1);
        due("the highest bit", x.stand(Integer.MIN_VALUE), -1);
        due("as it was", x.there(), 2);
        due("all", x.stand(7), 2);
        due("status", x.status(), 0);
    }
}
