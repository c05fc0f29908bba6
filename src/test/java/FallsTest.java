/** Promises 15, 16, 19 to 22, 27: touches, unlawful, falls, round, take, farm, gate. */
public final class FallsTest {
    private static final Check CHECK = new Check("FallsTest");
    private static final int NONE = FiveTouch.NONE;

    public static void main(String[] args) {
        testTouches();
        testGroundAndSides();
        testCorners();
        testUnlawful();
        testFalls();
        testFallsByItself();
        testRound();
        testTake();
        testFarm();
        testGate();
        CHECK.close();
    }

    private static void due(String what, long got, long want) {
        CHECK.due(what, got, want);
    }

    /** Three courses; each stone needs two and has them. */
    private static FiveTouch courses() {
        FiveTouch x = new FiveTouch();
        x.terms(0, 2);
        x.stone(1, 0, 2, 1, 10);
        x.stone(3, 0, 2, 1, 20);
        x.stone(2, 1, 2, 1, 3);
        x.stone(4, 1, 1, 1, 4);
        x.stone(2, 2, 1, 1, 5);
        x.stone(3, 2, 2, 1, 6);
        return x;
    }

    private static void testTouches() {
        FiveTouch x = courses();
        int[] many = {4, 5, 5, 3, 2, 3};
        int[] whom = {0b000110, 0b001101, 0b111011, 0b100110, 0b100100, 0b011100};
        for (int i = 0; i < 6; i++) {
            due("touches of " + i, x.touches(i, 1), many[i]);
            due("whom " + i + " touches", x.touches(i, 3), whom[i]);
            due("what " + i + " needs", x.touches(i, 0), 2);
            due("bound " + i, x.touches(i, 2), 0);
        }
        x.stand(0b101011);
        due("of one that is away", x.touches(2, 1), NONE);
        due("whom one that is away touches", x.touches(2, 3), 0b101011);
        due("what one that is away needs", x.touches(2, 0), 2);
        due("whom a stone touches that are there", x.touches(5, 3), 0b001000);
        due("how many are there", x.touches(5, 1), 1);
        due("no such what", x.touches(0, 4), NONE);
        due("nor below 0", x.touches(0, -1), NONE);
        due("no such stone", x.touches(6, 0), NONE);
        due("nor below 0", x.touches(-1, 0), NONE);
        x.spare(1, 1, 1, 1, 1);
        due("spare ones are not in the wall", x.touches(0, 1), 3);
        due("nor among whom it touches", x.touches(0, 3), 0b000010);
    }

    private static void testGroundAndSides() {
        FiveTouch x = new FiveTouch();
        x.terms(1, 4);
        x.terms(2, 3);
        x.stone(0, 0, 2, 1, 1);
        x.stone(6, 0, 6, 1, 1);
        x.stone(0, 3, 6, 1, 1);
        x.stone(11, 7, 1, 1, 1);
        x.stone(5, 5, 6, 1, 1);
        int[] due = {7, 7, 3, 3, 0};
        for (int i = 0; i < 5; i++) {
            due("held " + i, x.touches(i, 1), due[i]);
        }
        x.terms(1, 0);
        x.terms(2, 0);
        due("no longer", x.touches(0, 1), 0);
    }

    private static void testCorners() {
        FiveTouch x = new FiveTouch();
        x.stone(3, 3, 2, 2, 1);
        int[][] corners = {{2, 2}, {5, 2}, {2, 5}, {5, 5}};
        for (int[] c : corners) {
            x.stone(c[0], c[1], 1, 1, 1);
        }
        due("corners do not touch", x.touches(0, 1), 0);
        due("a side does", x.stone(3, 5, 2, 1, 1), 5);
        due("by two cells it is one", x.touches(0, 1), 1);
        x.stone(5, 3, 1, 1, 1);
        x.stone(2, 4, 1, 1, 1);
        x.stone(4, 2, 1, 1, 1);
        due("all four sides", x.touches(0, 1), 4);
        due("a cell between", x.stone(7, 3, 1, 1, 1), 9);
        due("does not touch", x.touches(9, 3), 0);
    }

    private static void testUnlawful() {
        FiveTouch x = courses();
        due("all stand", x.unlawful(), NONE);
        x.terms(0, 3);
        due("the first", x.unlawful(), 4);
        x.terms(0, 5);
        due("the first of more", x.unlawful(), 0);
        x.terms(0, 2);
        x.stand(0b111000);
        due("not those that are away", x.unlawful(), 3);
        x.stand(0);
        due("of none", x.unlawful(), NONE);
    }

    private static void testFalls() {
        FiveTouch x = courses();
        int[][] rows = {{32, 1, 1, 15, 5}, {4, 3, 3, 3, 15}, {0, 0, 0, 63, 0}, {63, 0, 0, 0, 0}, {16, 0, 0, 47, 0},
            {36, 2, 1, 3, 9}};
        for (int[] r : rows) {
            for (int what = 0; what < 4; what++) {
                due("falls(" + r[0] + ", " + what + ")", x.falls(r[0], what), r[what + 1]);
            }
        }
        due("on paper", x.there(), 63);
        due("no such what", x.falls(4, 4), NONE);
        due("nor below 0", x.falls(4, -1), NONE);
        due("others", x.falls(64, 0), NONE);
        due("below 0", x.falls(-1, 0), NONE);
        x.stand(0b111011);
        due("one is away", x.falls(4, 0), NONE);
        due("not refused", x.count(5), 0);
    }

    private static void testFallsByItself() {
        FiveTouch x = courses();
        x.terms(0, 3);
        due("how many", x.falls(0, 0), 4);
        due("rounds", x.falls(0, 1), 4);
        due("left", x.falls(0, 2), 3);
        int[] rounds = {NONE, NONE, 4, 3, 1, 2};
        for (int i = 0; i < 6; i++) {
            due("round of " + i, x.round(0, i), rounds[i]);
        }
    }

    private static void testRound() {
        FiveTouch x = courses();
        int[] rounds = {NONE, NONE, 0, 3, 1, 2};
        for (int i = 0; i < 6; i++) {
            due("round of " + i, x.round(4, i), rounds[i]);
        }
        due("no such stone", x.round(4, 6), NONE);
        due("nor below 0", x.round(4, -1), NONE);
        due("others", x.round(64, 0), NONE);
        due("others, too", x.round(68, 3), NONE);
        x.stand(0b101111);
        due("it is away", x.round(4, 4), NONE);
        due("one is away", x.round(16, 4), NONE);
        due("the rest", x.round(4, 3), 2);
    }

    private static void testTake() {
        FiveTouch x = courses();
        due("others", x.take(64), -1);
        due("status", x.status(), -1);
        due("below 0", x.take(-1), -1);
        due("none falls", x.take(0), 0);
        due("status", x.status(), 0);
        due("taken and fallen", x.take(4), 4);
        due("there", x.there(), 3);
        due("one is away", x.take(5), -1);
        due("as it was", x.there(), 3);
        due("refused by -1", x.count(5), 3);
        due("how many there", x.count(1), 2);
        x.stand(63);
        x.terms(0, 3);
        due("by itself", x.take(0), 4);
        due("there", x.there(), 3);
        due("all", x.take(3), 2);
        due("there", x.there(), 0);
        due("none", x.take(0), 0);
    }

    private static void testFarm() {
        FiveTouch x = courses();
        int[] farms = {1, 3, 1, 0, 2, 1};
        for (int i = 0; i < 6; i++) {
            x.put(i, 1, farms[i]);
        }
        int[] due = {1, 2, 1, 0};
        for (int farm = 0; farm < 4; farm++) {
            due("of farm " + farm, x.farm(4, farm), due[farm]);
        }
        due("all", x.farm(63, 1), 3);
        due("none", x.farm(0, 1), 0);
        due("no such farm", x.farm(4, 4), NONE);
        due("nor below 0", x.farm(4, -1), NONE);
        due("others", x.farm(64, 0), NONE);
        x.stand(62);
        due("one is away", x.farm(1, 1), NONE);
    }

    private static void gate(FiveTouch x, int[] box, int away, int taken, int left) {
        String name = "gate " + java.util.Arrays.toString(box);
        due(name + " away", x.gate(box[0], box[1], box[2], box[3], 0), away);
        due(name + " taken", x.gate(box[0], box[1], box[2], box[3], 1), taken);
        due(name + " left", x.gate(box[0], box[1], box[2], box[3], 2), left);
    }

    private static void testGate() {
        FiveTouch x = courses();
        gate(x, new int[] {2, 1, 3, 1}, 4, 1, 3);
        gate(x, new int[] {3, 1, 3, 1}, 4, 1, 3);
        gate(x, new int[] {0, 0, 11, 7}, 6, 6, 0);
        gate(x, new int[] {0, 3, 11, 7}, 0, 0, 63);
        gate(x, new int[] {2, 2, 2, 2}, 1, 1, 47);
        gate(x, new int[] {4, 1, 4, 2}, 3, 2, 7);
        due("on paper", x.there(), 63);
        int[][] wrong = {{3, 0, 2, 0}, {0, 3, 0, 2}, {-1, 0, 0, 0}, {0, -1, 0, 0}, {0, 0, 12, 0}, {0, 0, 0, 8},
            {12, 0, 12, 0}, {0, 8, 0, 8}};
        for (int[] w : wrong) {
            gate(x, w, NONE, NONE, NONE);
        }
        due("no such what", x.gate(0, 0, 1, 1, 3), NONE);
        due("nor below 0", x.gate(0, 0, 1, 1, -1), NONE);
        x.stand(0b111011);
        due("one that is away is not taken", x.gate(2, 1, 3, 1, 1), 0);
        due("but others fall", x.gate(2, 1, 3, 1, 0), 3);
        x.spare(0, 5, 1, 1, 1);
        due("nor is a spare one", x.gate(0, 5, 0, 5, 1), 0);
    }
}
