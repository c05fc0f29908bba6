/** Promises 23 to 26, 28 to 30: once, oneByOne, order, fell, mend, game, night. */
public final class ThievesTest {
    private static final Check CHECK = new Check("ThievesTest");
    private static final int NONE = FiveTouch.NONE;

    public static void main(String[] args) {
        testRowOfThree();
        testFreeStones();
        testLowestOfAlike();
        testFirstOrder();
        testTwoPairs();
        testInAnyOrder();
        testUnlawfulWall();
        testNoneLoose();
        testNoneThere();
        testFallsByItself();
        testWrongWhats();
        testMend();
        testMendOfNone();
        testMendLaws();
        testNightPairs();
        testFoundAnew();
        CHECK.close();
    }

    private static void due(String what, long got, long want) {
        CHECK.due(what, got, want);
    }

    private static void dueAll(String name, FiveTouch x, int[][] rows) {
        String[] calls = {"once", "oneByOne", "order", "fell", "game", "mend"};
        for (int call = 0; call < rows.length; call++) {
            for (int what = 0; what < rows[call].length; what++) {
                int got = call == 0 ? x.once(what) : call == 1 ? x.oneByOne(what) : call == 2 ? x.order(what)
                    : call == 3 ? x.fell(what) : call == 4 ? x.game(what) : x.mend(what);
                due(name + ", " + calls[call] + "(" + what + ")", got, rows[call][what]);
            }
        }
    }

    /** Side by side from the grid's side on: lawful are {0}, {0, 1}, {1, 2}, {0, 1, 2}. */
    private static FiveTouch rowOfThree() {
        FiveTouch x = new FiveTouch();
        x.terms(0, 2);
        x.terms(1, 1);
        x.stone(0, 0, 1, 1, 5);
        x.stone(1, 0, 1, 1, 7);
        x.stone(2, 0, 1, 1, 5);
        return x;
    }

    /** Stones that stand alone. */
    private static FiveTouch free(int... weights) {
        FiveTouch x = new FiveTouch();
        x.terms(0, 0);
        for (int i = 0; i < weights.length; i++) {
            x.stone(i % 6 * 2, i / 6 * 2, 1, 1, weights[i]);
        }
        return x;
    }

    private static void testRowOfThree() {
        FiveTouch x = rowOfThree();
        dueAll("three", x, new int[][] {
            {2, 12, 6, 4}, {2, 12, 6, 4}, {2, 1, NONE}, {2, 3, 2}, {1, 0, 2}, {0, 0, 1}});
        int[][] nights = {{1, 1, 1, 1, 6}, {0, 0, NONE, 2, 3}, {7, 0, NONE, 0, NONE}, {6, 1, 0, 0, NONE},
            {3, 1, 2, 0, NONE}, {2, 0, NONE, 0, NONE}};
        for (int[] n : nights) {
            for (int what = 0; what < 4; what++) {
                due("night(" + n[0] + ", " + what + ")", x.night(n[0], what), n[what + 1]);
            }
        }
        due("on paper", x.there(), 7);
        x.stand(6);
        dueAll("the last two", x, new int[][] {
            {0, 0, 0, 1}, {0, 0, 0, 1}, {NONE}, {1, 2, 2}, {0, NONE, 0}, {0, 0, 1}});
        x.stand(3);
        dueAll("the first two", x, new int[][] {
            {1, 7, 2, 2}, {1, 7, 2, 2}, {1, NONE}, {1, 1, 1}, {1, 1, 1}, {0, 0, 1}});
    }

    private static void testFreeStones() {
        dueAll("one", free(5), new int[][] {{0, 0, 0, 1}, {0, 0, 0, 1}, {NONE}, {1, 1, 1}, {0, NONE, 0}});
        dueAll("two", free(5, 5), new int[][] {{1, 5, 1, 3}, {1, 5, 1, 3}, {0, NONE}, {2, 3, 1}, {1, 0, 2}});
        dueAll("three", free(5, 7, 5), new int[][] {
            {2, 12, 3, 7}, {2, 12, 3, 7}, {0, 1, NONE}, {3, 7, 1}, {0, NONE, 3}});
        int[] weights = new int[14];
        java.util.Arrays.fill(weights, 99);
        weights[4] = 1;
        int all = 16383;
        dueAll("fourteen", free(weights), new int[][] {
            {13, 1287, all - 16, all}, {13, 1287, all - 16, all}, {0, 1, 2, 3, 5, 6, 7, 8, 9, 10, 11, 12, 13, NONE},
            {14, all, 1}, {1, 0, 14}});
    }

    private static void testLowestOfAlike() {
        dueAll("most weight ahead of lowest", free(3, 4, 5), new int[][] {{2, 9, 6, 7}, {2, 9, 6, 7}, {1, 2, NONE}});
        dueAll("lowest of alike", free(3, 3, 3), new int[][] {{2, 6, 3, 7}, {2, 6, 3, 7}, {0, 1, NONE}});
        dueAll("most stones ahead of weight", freeOrHeavy(), new int[][] {{2, 2, 6, 4}});
    }

    /** The first must stay, else the others fall: {0}, {0, 1}, {0, 2}, all; but it is the heaviest. */
    private static FiveTouch freeOrHeavy() {
        FiveTouch x = new FiveTouch();
        x.stone(3, 3, 1, 2, 99);
        x.stone(4, 3, 1, 1, 1);
        x.stone(2, 3, 1, 1, 1);
        Check.forced(x, "needs 1 if stone>0;needs 0 if stone=0");
        return x;
    }

    /** A tower of 1, 2, 0 from below, and 3 by itself: 0 needs 2, and 2 one of the others. */
    private static void testFirstOrder() {
        FiveTouch x = new FiveTouch();
        x.terms(0, 1);
        x.terms(1, 1);
        x.stone(4, 2, 1, 1, 1);
        x.stone(4, 0, 1, 1, 1);
        x.stone(4, 1, 1, 1, 1);
        x.stone(8, 0, 1, 1, 1);
        dueAll("tower", x, new int[][] {
            {3, 3, 7, 9}, {3, 3, 7, 9}, {0, 2, 1, NONE}, {3, 11, 2}, {1, 0, 3}});
    }

    /** Each pair holds itself, so it can go at once, but not one by one. */
    private static void testTwoPairs() {
        FiveTouch x = new FiveTouch();
        x.terms(0, 1);
        x.stone(2, 3, 1, 1, 1);
        x.stone(3, 3, 1, 1, 1);
        x.stone(6, 3, 1, 1, 1);
        x.stone(7, 3, 1, 1, 2);
        dueAll("two pairs", x, new int[][] {
            {2, 3, 12, 3}, {0, 0, 0, 1}, {NONE}, {2, 5, 4}, {0, NONE, 0}, {0, 0, 1}});
    }

    /** No search may be led astray by what another one has left behind. */
    private static void testInAnyOrder() {
        for (int first = 0; first < 5; first++) {
            for (int second = 0; second < 5; second++) {
                FiveTouch x = pairsAndRow();
                ask(x, first, 0);
                FiveTouch fresh = pairsAndRow();
                for (int what = 0; what < 4; what++) {
                    due(second + " behind " + first, ask(x, second, what), ask(fresh, second, what));
                }
            }
        }
        FiveTouch x = pairsAndRow();
        due("sets at once", x.once(3), 5 * 2 * 2 - 1);
        due("sets one by one", x.oneByOne(3), 5);
    }

    private static int ask(FiveTouch x, int call, int what) {
        return call == 0 ? x.once(what) : call == 1 ? x.oneByOne(what) : call == 2 ? x.order(what)
            : call == 3 ? x.fell(what) : x.game(what);
    }

    /** The row of three, and two pairs in the air that hold themselves. */
    private static FiveTouch pairsAndRow() {
        FiveTouch x = rowOfThree();
        Check.forced(x, "needs 1 if stone>2");
        x.stone(5, 3, 1, 1, 1);
        x.stone(6, 3, 1, 1, 1);
        x.stone(8, 3, 1, 1, 1);
        x.stone(9, 3, 1, 1, 1);
        return x;
    }

    private static void testUnlawfulWall() {
        FiveTouch x = new FiveTouch();
        x.terms(0, 1);
        x.terms(1, 0);
        x.terms(2, 0);
        x.stone(0, 0, 1, 1, 1);
        x.stone(1, 0, 1, 1, 1);
        x.stone(5, 0, 1, 1, 9);
        due("it is not lawful", x.unlawful(), 2);
        dueAll("unlawful", x, new int[][] {
            {1, 9, 4, 1}, {NONE, NONE, NONE, 0}, {NONE}, {1, 1, 2}, {1, 2, 1}, {NONE, NONE, 0}});
        due("night does not ask whether it is lawful", x.night(3, 0), 1);
        due("whom", x.night(3, 1), 2);
        due("all gone by one", x.night(0, 0), 2);
        due("the lowest", x.night(0, 1), 0);
        due("by two", x.night(0, 2), 3);
        due("the lowest two", x.night(0, 3), 3);
    }

    private static void testNoneLoose() {
        FiveTouch x = free(5, 5);
        x.terms(0, 12);
        dueAll("none loose", x, new int[][] {
            {NONE, NONE, NONE, 0}, {NONE, NONE, NONE, 0}, {NONE}, {0, 0, 1}, {0, NONE, 0}, {NONE, NONE, 0}});
    }

    private static void testNoneThere() {
        FiveTouch x = free(5, 5);
        x.stand(0);
        dueAll("none there", x, new int[][] {
            {NONE, NONE, NONE, 0}, {NONE, NONE, NONE, 0}, {NONE}, {0, 0, 1}, {0, NONE, 0}, {NONE, NONE, 0}});
        due("night of none", x.night(0, 0), 0);
        due("no single one", x.night(0, 1), NONE);
        due("no pair", x.night(0, 2), 0);
        due("no lowest pair", x.night(0, 3), NONE);
    }

    /** The middle one falls by itself: whoever brings all down need not take it. */
    private static void testFallsByItself() {
        FiveTouch x = free(5, 6, 7);
        Check.forced(x, "needs 9 if stone=1");
        due("it falls", x.unlawful(), 1);
        dueAll("by itself", x, new int[][] {
            {2, 13, 6, 3}, {NONE, NONE, NONE, 0}, {NONE}, {2, 5, 1}, {0, NONE, 1}, {NONE, NONE, 0}});
    }

    private static void testWrongWhats() {
        FiveTouch x = rowOfThree();
        for (int what : new int[] {-1, 4, Integer.MAX_VALUE, Integer.MIN_VALUE}) {
            due("once(" + what + ")", x.once(what), NONE);
            due("oneByOne(" + what + ")", x.oneByOne(what), NONE);
            due("order(" + what + ")", x.order(what), NONE);
            due("fell(" + what + ")", x.fell(what), NONE);
            due("mend(" + what + ")", x.mend(what), NONE);
            due("game(" + what + ")", x.game(what), NONE);
            due("night(1, " + what + ")", x.night(1, what), NONE);
        }
        due("fell(3)", x.fell(3), NONE);
        due("mend(3)", x.mend(3), NONE);
        due("game(3)", x.game(3), NONE);
        due("night of others", x.night(8, 0), NONE);
        due("night below 0", x.night(-1, 0), NONE);
        x.stand(3);
        due("night, one is away", x.night(4, 0), NONE);
        due("none was refused", x.count(5), 0);
    }

    /** A stone in the air and four spare ones, three of them beside it. */
    private static FiveTouch mendable(String law) {
        FiveTouch x = new FiveTouch();
        x.stone(5, 3, 1, 1, 1);
        x.spare(9, 3, 1, 1, 1);
        x.spare(4, 3, 1, 1, 2);
        x.spare(6, 3, 1, 1, 3);
        x.spare(5, 4, 1, 1, 4);
        Check.forced(x, law);
        return x;
    }

    private static void mended(String law, int many, int which, int ways) {
        FiveTouch x = mendable(law);
        due("mended by " + law, x.mend(0), many);
        due("which by " + law, x.mend(1), which);
        due("ways by " + law, x.mend(2), ways);
    }

    private static void testMend() {
        mended("needs 2;needs 0 if stone>13", 2, 6, 3);
        mended("needs 1;needs 0 if stone>13", 1, 2, 3);
        mended("needs 3;needs 0 if stone>13", 3, 14, 1);
        mended("needs 0;needs 5 if stone>13", 0, 0, 1);
        mended("needs 4;needs 0 if stone>13", NONE, NONE, 0);
        mended("needs 1", 1, 2, 3);
        mended("needs 2", NONE, NONE, 0);
    }

    private static void testMendOfNone() {
        FiveTouch x = mendable("needs 0");
        x.stand(0);
        dueAll("spare ones alone", x, new int[][] {{}, {}, {}, {}, {}, {1, 1, 4}});
        Check.forced(x, "needs 1");
        due("none touches another", x.mend(0), NONE);
        x.spare(8, 3, 1, 1, 1);
        due("these two do", x.mend(0), 2);
        due("which", x.mend(1), 0b10001);
        due("one way", x.mend(2), 1);
    }

    private static void testMendLaws() {
        mended("needs 1;needs 9 if stone=15 or weight=3", 1, 8, 1);
        mended("needs 1;needs 0 if stone>13 and farm=0 and frost=0", 1, 2, 3);
        mended("needs 1;bound if stone=15 and x=4 and y=3;needs 9 if stone>13", 1, 2, 1);
    }

    /** Four in a square, which stand by two that touch; by the lower stone, {0, 3} is ahead of {1, 2}. */
    private static void testNightPairs() {
        FiveTouch x = new FiveTouch();
        x.terms(0, 1);
        x.stone(3, 3, 1, 1, 1);
        x.stone(4, 3, 1, 1, 1);
        x.stone(3, 4, 1, 1, 1);
        x.stone(4, 4, 1, 1, 1);
        due("none by one", x.night(0, 0), 0);
        due("all gone by two", x.night(0, 2), 2);
        due("the lowest pair", x.night(0, 3), 0b1001);
        due("two of them gone", x.night(0b1100, 2), 1);
        due("which", x.night(0b1100, 3), 0b0011);
    }

    /** What was found once is found anew when the wall is another one. */
    private static void testFoundAnew() {
        FiveTouch x = free(5, 6, 7);
        due("once", x.once(1), 13);
        x.put(0, 0, 50);
        due("once behind put", x.once(1), 57);
        due("steps", x.oneByOne(3), 7);
        x.stand(3);
        due("steps behind stand", x.oneByOne(3), 3);
        due("fell", x.fell(0), 2);
        x.terms(0, 12);
        due("fell behind terms", x.fell(0), 0);
        due("game", x.game(2), 0);
        x.terms(0, 0);
        due("game behind terms", x.game(2), 2);
        x.stone(5, 5, 1, 1, 1);
        due("game behind stone", x.game(2), 3);
        Check.forced(x, "needs 1");
        due("game behind force", x.game(2), 1);
        due("mend", x.mend(0), NONE);
        x.force(NONE);
        due("mend behind force", x.mend(0), 0);
        x.image(0);
        due("once ahead of take", x.once(3), 7);
        x.take(3);
        due("once behind take", x.once(3), 1);
        due("order behind take", x.order(0), NONE);
        x.back(0);
        due("order behind back", x.order(0), 0);
        x.terms(0, 3);
        due("mend of these", x.mend(2), 0);
        x.stand(0);
        x.spare(0, 7, 1, 1, 1);
        Check.forced(x, "bound if stone=14");
        due("mend behind spare", x.mend(2), 1);
        Check.feed(x, "\u000b\u0007\u0001\u0001\u0001");
        x.row();
        due("mend behind row", x.mend(2), 0);
    }
}
