/** Promises 33 to 36: image, back, count, status. */
public final class ImagesTest {
    private static final Check CHECK = new Check("ImagesTest");
    private static final int NONE = FiveTouch.NONE;

    public static void main(String[] args) {
        testRefused();
        testKeepsAll();
        testDoesNotKeep();
        testTwoImages();
        testNewInOldPlaces();
        testFullImages();
        testCount();
        testStatus();
        CHECK.close();
    }

    private static void due(String what, long got, long want) {
        CHECK.due(what, got, want);
    }

    private static void testRefused() {
        FiveTouch x = new FiveTouch();
        for (int k : new int[] {-1, 2, Integer.MAX_VALUE, Integer.MIN_VALUE}) {
            due("image " + k, x.image(k), -1);
            due("back " + k, x.back(k), -1);
            due("status", x.status(), -1);
        }
        due("not kept", x.back(0), -2);
        due("status", x.status(), -2);
        due("keep", x.image(1), 0);
        due("status", x.status(), 0);
        due("still not kept", x.back(0), -2);
        due("kept", x.back(1), 0);
        due("status", x.status(), 0);
        due("refused by -1", x.count(5), 8);
        due("refused by -2", x.count(6), 2);
    }

    private static void testKeepsAll() {
        FiveTouch x = new FiveTouch();
        x.stone(3, 0, 2, 1, 9);
        x.stone(5, 0, 2, 1, 9);
        x.spare(0, 7, 1, 1, 1);
        x.put(0, 1, 2);
        x.put(0, 2, 30);
        x.terms(0, 7);
        x.terms(1, 8);
        x.terms(2, 9);
        due("a law", Check.forced(x, "needs 6"), 0);
        x.stand(1);
        due("image", x.image(0), 0);
        x.put(0, 0, 50);
        x.put(0, 1, 3);
        x.put(0, 2, 60);
        x.terms(0, 1);
        x.terms(1, 1);
        x.terms(2, 1);
        x.stand(3);
        x.stone(0, 0, 1, 1, 1);
        x.spare(1, 7, 1, 1, 1);
        due("another law", Check.forced(x, "needs 2"), 1);
        due("back", x.back(0), 0);
        int[] counts = {2, 1, 1, 1, 0, 0, 0, 0, 0, 0, 0, 7, 8, 9};
        for (int i = 0; i < counts.length; i++) {
            due("count " + i, x.count(i), counts[i]);
        }
        int[] facts = {3, 0, 2, 1, 9, 2, 30, 1};
        for (int i = 0; i < facts.length; i++) {
            due("of 0, " + i, x.of(0, i), facts[i]);
        }
        due("there", x.there(), 1);
        due("need", x.touches(0, 0), 6);
        due("touches", x.touches(0, 1), 8);
        due("the later law is gone", x.force(1), -2);
        due("the later stone's place is free", x.stone(0, 0, 1, 1, 1), 2);
        due("the later spare one's, too", x.spare(1, 7, 1, 1, 1), 1);
        due("back once more", x.back(0), 0);
        due("images stay", x.count(0), 2);
    }

    private static void testDoesNotKeep() {
        FiveTouch x = new FiveTouch();
        x.stone(3, 0, 2, 1, 9);
        x.image(0);
        x.stone(5, 0, 2, 1, 9);
        Check.law(x, "needs !");
        Check.feed(x, "\u0001");
        x.row();
        x.winters(0, 2);
        x.put(9, 0, 1);
        x.feed(1, 2, 3, 4, 5);
        due("back", x.back(0), 0);
        due("the tape", x.count(4), 20);
        due("fault", x.fault(), 6);
        due("rubble", x.rubble(), 1);
        due("winters", x.winter(1), x.winter(0));
        due("there are two of them", x.winter(1) == NONE ? 1 : 0, 0);
        due("no third", x.winter(2), NONE);
        due("refused by -2", x.count(6), 1);
        due("refused by -6", x.count(9), 1);
        due("but the stone is gone", x.count(0), 1);
    }

    private static void testTwoImages() {
        FiveTouch x = new FiveTouch();
        x.stone(0, 0, 1, 1, 1);
        Check.law(x, "needs 1");
        x.image(0);
        Check.forced(x, "needs 2");
        x.image(1);
        x.back(0);
        due("another law in its place", Check.forced(x, "needs 3"), 1);
        due("need", x.touches(0, 0), 3);
        x.back(1);
        due("the other image has its own", x.touches(0, 0), 2);
        due("in force", x.count(10), 1);
        x.back(0);
        due("none in force", x.count(10), NONE);
        due("one law", x.count(3), 1);
        x.stone(5, 5, 1, 1, 1);
        due("kept anew", x.image(0), 0);
        x.back(1);
        due("one stone", x.count(0), 1);
        x.back(0);
        due("two stones", x.count(0), 2);
    }

    /** A stone that comes where one was ahead of the way back has nothing of it. */
    private static void testNewInOldPlaces() {
        FiveTouch x = new FiveTouch();
        x.image(0);
        x.stone(0, 0, 2, 2, 50);
        x.put(0, 1, 3);
        x.put(0, 2, 90);
        x.stand(0);
        x.back(0);
        due("no stone", x.of(0, 0), NONE);
        due("a new one", x.stone(1, 1, 1, 1, 5), 0);
        int[] facts = {1, 1, 1, 1, 5, 0, 0, 1};
        for (int i = 0; i < facts.length; i++) {
            due("of 0, " + i, x.of(0, i), facts[i]);
        }
        x.put(0, 1, 2);
        x.put(0, 2, 80);
        x.back(0);
        Check.feed(x, "\u0002\u0002\u0001\u0001\u0009");
        due("a row's", x.row(), 1);
        due("farm", x.of(0, 5), 0);
        due("frost", x.of(0, 6), 0);
    }

    /** Two walls that have nothing in common, each with all that there is room for. */
    private static void testFullImages() {
        FiveTouch x = new FiveTouch();
        x.image(1);
        for (int k = 0; k < 2; k++) {
            x.back(1);
            for (int i = 0; i < 14; i++) {
                x.stone(i % 7 + 5 * k, i / 7 + 5 * k, 1, 1, 1 + i + k);
                x.put(i, 1, (i + k) % 4);
                x.put(i, 2, i + k);
            }
            for (int i = 0; i < 8; i++) {
                x.spare(i + 4 * k, 3, 1, 1, 1);
            }
            for (int i = 0; i < 6; i++) {
                Check.law(x, "needs " + (i + k));
            }
            x.image(k);
        }
        for (int k = 0; k < 2; k++) {
            x.back(k);
            for (int i = 0; i < 14; i++) {
                int[] facts = {i % 7 + 5 * k, i / 7 + 5 * k, 1, 1, 1 + i + k, (i + k) % 4, i + k, 1};
                for (int what = 0; what < 8; what++) {
                    due("image " + k + ", of " + i + ", " + what, x.of(i, what), facts[what]);
                }
            }
            for (int i = 0; i < 6; i++) {
                x.force(i);
                due("image " + k + ", law " + i, x.touches(0, 0), i + k);
            }
            for (int i = 0; i < 12; i++) {
                boolean taken = i >= 4 * k && i < 8 + 4 * k;
                due("image " + k + ", spare place " + i, x.spare(i, 3, 1, 1, 1), taken ? -3 : -5);
            }
        }
    }

    private static void testCount() {
        FiveTouch x = new FiveTouch();
        due("below 0", x.count(-1), NONE);
        due("14", x.count(14), NONE);
        due("far", x.count(Integer.MAX_VALUE), NONE);
        x.stone(0, 0, 1, 1, 0);
        x.put(0, 0, 5);
        x.stone(0, 0, 1, 1, 1);
        x.stone(0, 0, 1, 1, 1);
        x.row();
        x.row();
        x.law();
        for (int i = 0; i < 13; i++) {
            x.stone(i % 6 + 1, i / 6, 1, 1, 1);
        }
        for (int i = 0; i < 4; i++) {
            x.stone(11, 7, 1, 1, 1);
        }
        x.stand(7);
        int[] counts = {14, 3, 0, 0, 0, 1, 1, 1, 4, 3, NONE, 5, 2, 1};
        for (int i = 0; i < counts.length; i++) {
            due("count " + i, x.count(i), counts[i]);
        }
    }

    private static void testStatus() {
        FiveTouch x = new FiveTouch();
        x.stone(0, 0, 1, 1, 0);
        due("stone", x.status(), -1);
        // These are not among the calls that it tells of, whatever they answer.
        x.of(5, 5);
        x.feed(1, 1, 1, 1, 1);
        x.end(99);
        x.end(0);
        x.at(0, 0);
        x.touches(0, 0);
        x.unlawful();
        x.there();
        x.falls(1, 0);
        x.round(1, 0);
        x.farm(1, 0);
        x.once(9);
        x.oneByOne(9);
        x.order(9);
        x.fell(9);
        x.gate(9, 9, 9, 9, 9);
        x.mend(9);
        x.game(9);
        x.night(9, 9);
        x.winter(9);
        x.count(99);
        x.rubble();
        x.fault();
        due("still stone's", x.status(), -1);
        due("one was refused", x.count(5), 1);
        Runnable[] good = {
            () -> x.stone(0, 0, 1, 1, 1), () -> x.spare(1, 1, 1, 1, 1), () -> x.put(0, 0, 1), () -> x.terms(0, 0),
            () -> x.force(NONE), () -> x.stand(1), () -> x.take(0), () -> x.winters(0, 1), () -> x.image(0),
            () -> x.back(0), () -> Check.law(x, "bound")};
        for (int i = 0; i < good.length; i++) {
            x.row();
            due("an empty row", x.status(), -6);
            good[i].run();
            due("good call " + i, x.status(), 0);
        }
        Runnable[] bad = {
            () -> x.stone(0, 0, 1, 1, 0), () -> x.spare(1, 1, 1, 1, 0), () -> x.put(0, 0, 0), () -> x.terms(0, -1),
            () -> x.stand(-1), () -> x.take(-1), () -> x.winters(0, 0), () -> x.image(2), () -> x.back(2)};
        for (int i = 0; i < bad.length; i++) {
            x.terms(0, 0);
            bad[i].run();
            due("bad call " + i, x.status(), -1);
        }
        due("refused by -1", x.count(5), 1 + bad.length);
    }
}
