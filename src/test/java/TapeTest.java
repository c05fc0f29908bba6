/** Promises 7 to 10: feed, end, row, rubble. */
public final class TapeTest {
    private static final Check CHECK = new Check("TapeTest");

    public static void main(String[] args) {
        testFeed();
        testEnd();
        testRow();
        testRowRoom();
        testBytesAboveSigns();
        CHECK.close();
    }

    private static void due(String what, long got, long want) {
        CHECK.due(what, got, want);
    }

    private static void testFeed() {
        FiveTouch x = new FiveTouch();
        for (int i = 1; i <= 20; i++) {
            due("feed " + i, x.feed(0, 0, 0, 0, 0), 20 * i);
        }
        due("beyond 400", x.feed(0, 0, 0, 0, 0), FiveTouch.NONE);
        due("as it was", x.count(4), 400);
        due("shorter", x.end(381), 381);
        due("a byte too long", x.feed(0, 0, 0, 0, 0), FiveTouch.NONE);
        due("as it was", x.count(4), 381);
        due("shorter", x.end(380), 380);
        due("just as long", x.feed(0, 0, 0, 0, 0), 400);
        due("none was refused", x.count(5), 0);
        due("nor is it a status", x.status(), 0);
    }

    private static void testEnd() {
        FiveTouch x = new FiveTouch();
        due("of an empty one", x.end(0), 0);
        due("too many", x.end(1), FiveTouch.NONE);
        x.feed(1, 2, 3, 4, 5);
        due("too many", x.end(21), FiveTouch.NONE);
        due("below 0", x.end(-1), FiveTouch.NONE);
        due("as it was", x.count(4), 20);
        due("all", x.end(20), 20);
        due("some", x.end(7), 7);
        due("then", x.count(4), 7);
        due("none", x.end(0), 0);
        due("then", x.count(4), 0);
        due("none was refused", x.count(5), 0);
    }

    private static void testRow() {
        FiveTouch x = new FiveTouch();
        due("empty", x.row(), -6);
        due("status", x.status(), -6);
        due("refused by -6", x.count(9), 1);
        due("no rubble", x.rubble(), 0);
        x.spare(7, 0, 1, 1, 1);
        String row = "\u0001\u0000\u0002\u0001\u0007"  // stone 0
            + "\u0002\u0000\u0001\u0001\u0007"         // on it
            + "\u0007\u0000\u0001\u0001\u0007"         // on the spare one
            + "\u0003\u0000\u0000\u0001\u0007"         // too narrow
            + "\u000b\u0007\u0001\u0001\u0063"         // stone 1
            + "\u0003\u0000\u0001\u0001\u0064"         // too heavy
            + "\u0003\u0000\u0001\u0002";              // cut off
        Check.feed(x, row);
        due("came", x.row(), 2);
        due("rubble", x.rubble(), 5);
        due("status", x.status(), 0);
        due("the tape is empty", x.count(4), 0);
        due("there", x.there(), 3);
        int[] facts = {11, 7, 1, 1, 99, 0, 0, 1};
        for (int i = 0; i < facts.length; i++) {
            due("of 1, " + i, x.of(1, i), facts[i]);
        }
        due("rubble is not refused", x.count(5) + x.count(7), 0);
        due("empty again", x.row(), -6);
        due("rubble of the latest that was not refused", x.rubble(), 5);
        Check.feed(x, "\u0005\u0005\u0001\u0001\u0001");
        due("one more", x.row(), 1);
        due("no rubble now", x.rubble(), 0);
        Check.feed(x, "\u0001");
        due("only a piece", x.row(), 0);
        due("is rubble", x.rubble(), 1);
        x.feed(0x06060101, 0x01060401, 0x01010000, 0, 0);
        x.end(9);
        due("what was cut off does not count", x.row(), 1);
        due("the second is rubble", x.rubble(), 1);
        due("of the two, the first came", x.at(6, 6), 3);
    }

    private static void testRowRoom() {
        FiveTouch x = new FiveTouch();
        StringBuilder row = new StringBuilder();
        for (int i = 0; i < 20; i++) {
            row.append((char) (i % 12)).append((char) (i / 12)).append("\u0001\u0001\u0001");
        }
        Check.feed(x, row.toString());
        due("fourteen come", x.row(), 14);
        due("six have no room", x.rubble(), 6);
        due("stones", x.count(0), 14);
        due("no room is not refused", x.count(8), 0);
        Check.feed(x, "\u0005\u0005\u0001\u0001\u0001");
        due("none comes", x.row(), 0);
        due("status all the same", x.status(), 0);
    }

    /** The highest byte of a number first, and none below 0. */
    private static void testBytesAboveSigns() {
        FiveTouch x = new FiveTouch();
        x.feed(0x03020104, 0x05FFFFFF, 0xFF800000, 0, 0);
        x.end(10);
        due("one of two", x.row(), 1);
        due("x", x.of(0, 0), 3);
        due("y", x.of(0, 1), 2);
        due("wide", x.of(0, 2), 1);
        due("tall", x.of(0, 3), 4);
        due("weight", x.of(0, 4), 5);
        due("the other one can't be", x.rubble(), 1);
    }
}
