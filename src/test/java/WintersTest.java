/** Promises 31 and 32: winters, winter. From seed 0 the draws of 100 are 45, 41, 89, 57, 60. */
public final class WintersTest {
    private static final Check CHECK = new Check("WintersTest");
    private static final int NONE = FiveTouch.NONE;

    public static void main(String[] args) {
        testDraws();
        testDrawsOfThoseThere();
        testFallAndPutBack();
        testPutBackTheBest();
        testRefused();
        testKeptAsLatest();
        testSeeds();
        CHECK.close();
    }

    private static void due(String what, long got, long want) {
        CHECK.due(what, got, want);
    }

    /** Stones that stand alone, with frosts. */
    private static FiveTouch free(int... frosts) {
        FiveTouch x = new FiveTouch();
        x.terms(0, 0);
        for (int i = 0; i < frosts.length; i++) {
            x.stone(i % 6 * 2, i / 6 * 2, 1, 1, 1);
            x.put(i, 2, frosts[i]);
        }
        return x;
    }

    /** Stones 0 and 1 are away at first, so that one that is put back hides no other. */
    private static void testDraws() {
        FiveTouch x = free(0, 0, 45, 42, 89, 58, 61);
        x.stand(0b1111100);
        due("a winter", x.winters(0, 1), 3);
        due("45 is not below 45, 41 is below 42, 89 is not below 89, 57 is below 58, 60 below 61",
            x.winter(0), 0b0010101);
        due("on paper", x.there(), 0b1111100);
        x.put(2, 2, 46);
        x.put(3, 2, 41);
        x.put(4, 2, 90);
        x.put(5, 2, 57);
        x.put(6, 2, 60);
        due("the other way", x.winters(0, 1), 4);
        due("left", x.winter(0), 0b1101001);
    }

    private static void testDrawsOfThoseThere() {
        FiveTouch x = free(0, 45);
        x.stand(2);
        due("the first draw is the first one's that is there", x.winters(0, 1), 2);
        FiveTouch y = free(0, 0, 0, 42);
        y.stand(0b1000);
        due("a draw each, again and again", y.winters(0, 2), 3);
        due("45: it stays", y.winter(0), 0b1001);
        due("41 is the first one's now, 89 its own", y.winter(1), 0b1011);
        y.put(3, 2, 100);
        due("taken", y.winters(0, 3), 3);
        due("another one comes", y.winter(0), 1);
        due("the one there stays", y.winter(1), 3);
        due("and more come", y.winter(2), 7);
    }

    private static void testFallAndPutBack() {
        FiveTouch x = new FiveTouch();
        x.terms(0, 1);
        x.terms(1, 0);
        x.terms(2, 0);
        x.stone(3, 0, 1, 1, 1);
        x.stone(4, 0, 1, 1, 1);
        x.stone(5, 0, 1, 1, 1);
        x.put(1, 2, 100);
        due("the middle one freezes, the others fall, one comes back", x.winters(5, 1), 1);
        due("the lowest of alike", x.winter(0), 1);
        due("then it falls, and comes back", x.winters(5, 2), 1);
        due("the same again", x.winter(1), 1);
        x.put(1, 2, 0);
        due("none freezes", x.winters(5, 40), 3);
        due("till the last", x.winter(39), 7);
        due("no more", x.winter(40), NONE);
    }

    /** Beside the bound one a stone stands, by itself it does not: the lower one is not the best. */
    private static void testPutBackTheBest() {
        FiveTouch x = new FiveTouch();
        x.terms(0, 1);
        x.terms(1, 0);
        x.terms(2, 0);
        x.stone(0, 0, 1, 1, 1);
        x.stone(5, 0, 1, 1, 1);
        x.stone(6, 0, 1, 1, 1);
        Check.forced(x, "bound if stone=1");
        x.stand(2);
        due("three winters", x.winters(1000000, 3), 3);
        due("the best", x.winter(0), 6);
        due("the last one away, though it will fall", x.winter(1), 7);
        due("it fell and came back", x.winter(2), 7);
        x.spare(1, 0, 1, 1, 1);
        due("spare ones do not come", x.winters(1000000, 3), 3);
    }

    private static void testRefused() {
        FiveTouch x = free(0);
        int[][] wrong = {{-1, 1}, {1000001, 1}, {0, 0}, {0, 41}, {0, -1}, {Integer.MIN_VALUE, Integer.MAX_VALUE}};
        for (int[] w : wrong) {
            due("can't be", x.winters(w[0], w[1]), -1);
            due("status", x.status(), -1);
        }
        due("refused by -1", x.count(5), wrong.length);
        due("none kept", x.winter(0), NONE);
        due("least", x.winters(0, 1), 1);
        due("status", x.status(), 0);
        due("most", x.winters(1000000, 40), 1);
    }

    private static void testKeptAsLatest() {
        FiveTouch x = free(0, 0);
        due("none yet", x.winter(0), NONE);
        x.winters(0, 3);
        due("kept", x.winter(2), 3);
        due("no fourth", x.winter(3), NONE);
        due("none below 0", x.winter(-1), NONE);
        due("refused", x.winters(0, 0), -1);
        due("still kept", x.winter(2), 3);
        x.stone(9, 5, 1, 1, 1);
        due("as it was", x.winter(2), 3);
        x.winters(0, 1);
        due("fewer now", x.winter(1), NONE);
        due("the latest", x.winter(0), 7);
        FiveTouch none = new FiveTouch();
        due("no stones at all", none.winters(0, 2), 0);
        due("none there", none.winter(1), 0);
    }

    /** Seed 1,000,000: (1,000,000 * 1103 + 12345) mod 1,000,003 is 9,036; then 979,026. */
    private static void testSeeds() {
        FiveTouch x = free(0, 37, 26);
        x.stand(6);
        due("36 is below 37, 26 not below 26", x.winters(1000000, 1), 2);
        due("left", x.winter(0), 0b101);
        x.put(1, 2, 36);
        x.put(2, 2, 27);
        due("the other way", x.winters(1000000, 1), 2);
        due("left", x.winter(0), 0b011);
    }
}
