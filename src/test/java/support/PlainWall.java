import java.math.BigInteger;
import java.nio.ByteBuffer;
import java.util.ArrayList;
import java.util.Arrays;
import java.util.HashMap;
import java.util.HashSet;
import java.util.List;
import java.util.Map;
import java.util.Set;
import java.util.TreeMap;

/**
 * The document once more, in the plainest way and by other means than the class uses (cells instead of
 * oblongs, each fall played out, the game by memory, texts by a machine with a stack): to compare answers.
 */
public final class PlainWall {
    private static final int NONE = -1;

    private static final class Block {
        int x, y, wide, tall, weight, farm, frost;
        boolean there;

        Block copy() {
            Block b = new Block();
            b.x = x;
            b.y = y;
            b.wide = wide;
            b.tall = tall;
            b.weight = weight;
            b.farm = farm;
            b.frost = frost;
            b.there = there;
            return b;
        }

        boolean hasCell(int cx, int cy) {
            return cx >= x && cx < x + wide && cy >= y && cy < y + tall;
        }
    }

    private static final class State {
        List<Block> stones = new ArrayList<>();
        List<Block> spares = new ArrayList<>();
        int[] terms = {5, 2, 1};
        List<List<String>> laws = new ArrayList<>();
        int force = NONE;

        State copy() {
            State s = new State();
            for (Block b : stones) {
                s.stones.add(b.copy());
            }
            for (Block b : spares) {
                s.spares.add(b.copy());
            }
            s.terms = terms.clone();
            s.laws = new ArrayList<>(laws);
            s.force = force;
            return s;
        }
    }

    private State now = new State();
    private final State[] images = new State[2];
    private final List<Integer> tape = new ArrayList<>();
    private final Map<Integer, Integer> refused = new TreeMap<>();
    private List<Integer> winters = new ArrayList<>();
    private int status;
    private int fault = NONE;
    private int rubble;
    // Laid anew for each question.
    private int[] needs;
    private boolean[] bound;
    private boolean[][] touch;

    // ---- refusals ----

    private int no(int why) {
        refused.merge(why, 1, Integer::sum);
        status = why;
        return why;
    }

    private int yes(int answer) {
        status = 0;
        return answer;
    }

    // ---- stones ----

    private int judge(int x, int y, int wide, int tall, int weight, List<Block> list, int room) {
        if (x < 0 || y < 0 || wide < 1 || wide > 6 || tall < 1 || tall > 6 || weight < 1 || weight > 99
            || (long) x + wide > 12 || (long) y + tall > 8) {
            return -1;
        }
        List<Block> all = new ArrayList<>(now.stones);
        all.addAll(now.spares);
        for (int cx = x; cx < x + wide; cx++) {
            for (int cy = y; cy < y + tall; cy++) {
                for (Block b : all) {
                    if (b.hasCell(cx, cy)) {
                        return -3;
                    }
                }
            }
        }
        if (list.size() >= room) {
            return -5;
        }
        Block b = new Block();
        b.x = x;
        b.y = y;
        b.wide = wide;
        b.tall = tall;
        b.weight = weight;
        b.there = true;
        list.add(b);
        return list.size() - 1;
    }

    public int stone(int x, int y, int wide, int tall, int weight) {
        int r = judge(x, y, wide, tall, weight, now.stones, 14);
        return r < 0 ? no(r) : yes(r);
    }

    public int spare(int x, int y, int wide, int tall, int weight) {
        int r = judge(x, y, wide, tall, weight, now.spares, 8);
        return r < 0 ? no(r) : yes(r);
    }

    public int put(int stone, int what, int value) {
        int[] least = {1, 0, 0};
        int[] most = {99, 3, 100};
        if (what < 0 || what > 2 || value < least[what] || value > most[what]) {
            return no(-1);
        }
        if (stone < 0 || stone >= now.stones.size()) {
            return no(-2);
        }
        Block b = now.stones.get(stone);
        int before = what == 0 ? b.weight : what == 1 ? b.farm : b.frost;
        if (what == 0) {
            b.weight = value;
        } else if (what == 1) {
            b.farm = value;
        } else {
            b.frost = value;
        }
        return yes(before);
    }

    public int of(int stone, int what) {
        if (stone < 0 || stone >= now.stones.size() || what < 0 || what > 7) {
            return NONE;
        }
        Block b = now.stones.get(stone);
        return new int[] {b.x, b.y, b.wide, b.tall, b.weight, b.farm, b.frost, b.there ? 1 : 0}[what];
    }

    public int terms(int what, int value) {
        if (what < 0 || what > 2 || value < 0 || value > new int[] {12, 9, 9}[what]) {
            return no(-1);
        }
        int before = now.terms[what];
        now.terms[what] = value;
        return yes(before);
    }

    // ---- tape ----

    public int feed(int a, int b, int c, int d, int e) {
        if (tape.size() > 380) {
            return NONE;
        }
        for (int n : new int[] {a, b, c, d, e}) {
            for (byte part : ByteBuffer.allocate(4).putInt(n).array()) {
                tape.add(part & 255);
            }
        }
        return tape.size();
    }

    public int end(int n) {
        if (n < 0 || n > tape.size()) {
            return NONE;
        }
        tape.subList(n, tape.size()).clear();
        return n;
    }

    public int row() {
        if (tape.isEmpty()) {
            return no(-6);
        }
        int came = 0;
        rubble = 0;
        while (!tape.isEmpty()) {
            List<Integer> five = new ArrayList<>(tape.subList(0, Math.min(5, tape.size())));
            tape.subList(0, five.size()).clear();
            if (five.size() == 5
                && judge(five.get(0), five.get(1), five.get(2), five.get(3), five.get(4), now.stones, 14) >= 0) {
                came++;
            } else {
                rubble++;
            }
        }
        return yes(came);
    }

    public int rubble() {
        return rubble;
    }

    public int law() {
        StringBuilder text = new StringBuilder();
        for (int b : tape) {
            text.append((char) b);
        }
        tape.clear();
        if (now.laws.size() == 6) {
            return no(-5);
        }
        PlainText read = new PlainText(text.toString());
        fault = read.fault();
        if (fault != NONE) {
            return no(-6);
        }
        now.laws.add(read.tokens());
        return yes(now.laws.size() - 1);
    }

    public int fault() {
        return fault;
    }

    public int force(int law) {
        if (law < NONE || law >= now.laws.size()) {
            return no(-2);
        }
        int before = now.force;
        now.force = law;
        return yes(before);
    }

    // ---- the wall ----

    private int thereBits() {
        int bits = 0;
        for (int i = 0; i < now.stones.size(); i++) {
            bits += now.stones.get(i).there ? 1 << i : 0;
        }
        return bits;
    }

    private Block block(int place) {
        if (place < 14) {
            return place < now.stones.size() ? now.stones.get(place) : null;
        }
        return place - 14 < now.spares.size() ? now.spares.get(place - 14) : null;
    }

    private void lay() {
        needs = new int[22];
        bound = new boolean[22];
        touch = new boolean[22][22];
        for (int i = 0; i < 22; i++) {
            Block b = block(i);
            if (b == null) {
                continue;
            }
            needs[i] = now.terms[0];
            if (now.force != NONE) {
                Map<String, Integer> words = new HashMap<>();
                words.put("stone", i);
                words.put("x", b.x);
                words.put("y", b.y);
                words.put("wide", b.wide);
                words.put("tall", b.tall);
                words.put("weight", b.weight);
                words.put("farm", b.farm);
                words.put("frost", b.frost);
                PlainText.Told told = PlainText.ask(now.laws.get(now.force), words, now.terms[0]);
                needs[i] = told.need;
                bound[i] = told.bound;
            }
            for (int j = 0; j < 22; j++) {
                touch[i][j] = i != j && block(j) != null && isTouching(b, block(j));
            }
        }
    }

    private static boolean isTouching(Block a, Block b) {
        for (int x = a.x; x < a.x + a.wide; x++) {
            for (int y = a.y; y < a.y + a.tall; y++) {
                if (b.hasCell(x + 1, y) || b.hasCell(x - 1, y) || b.hasCell(x, y + 1) || b.hasCell(x, y - 1)) {
                    return true;
                }
            }
        }
        return false;
    }

    private int touchCount(int i, int set) {
        Block b = block(i);
        int many = 0;
        for (int j = 0; j < 22; j++) {
            if ((set & 1 << j) != 0 && touch[i][j]) {
                many++;
            }
        }
        if (b.y == 0) {
            many += now.terms[1];
        }
        if (b.hasCell(0, b.y)) {
            many += now.terms[2];
        }
        if (b.hasCell(11, b.y)) {
            many += now.terms[2];
        }
        return many;
    }

    private List<Integer> fallingIn(int set) {
        List<Integer> list = new ArrayList<>();
        for (int i = 0; i < 22; i++) {
            if ((set & 1 << i) != 0 && !bound[i] && touchCount(i, set) < needs[i]) {
                list.add(i);
            }
        }
        return list;
    }

    private boolean isLawful(int set) {
        return set != 0 && fallingIn(set).isEmpty();
    }

    /** The round in which each falls: 0 if it is not in the set, NONE if it stays. */
    private int[] fall(int set) {
        int[] rounds = new int[14];
        for (int i = 0; i < 14; i++) {
            rounds[i] = (set & 1 << i) == 0 ? 0 : NONE;
        }
        int left = set;
        for (int round = 1; !fallingIn(left).isEmpty(); round++) {
            for (int i : fallingIn(left)) {
                rounds[i] = round;
            }
            for (int i = 0; i < 14; i++) {
                if (rounds[i] == round) {
                    left -= 1 << i;
                }
            }
        }
        return rounds;
    }

    private int behind(int set) {
        int[] rounds = fall(set);
        int left = 0;
        for (int i = 0; i < 14; i++) {
            left += rounds[i] == NONE ? 1 << i : 0;
        }
        return left;
    }

    private boolean areThere(int stones) {
        return stones >= 0 && (stones | thereBits()) == thereBits();
    }

    private int weight(int set) {
        int sum = 0;
        for (int i = 0; i < 14; i++) {
            sum += (set & 1 << i) != 0 ? now.stones.get(i).weight : 0;
        }
        return sum;
    }

    public int at(int x, int y) {
        for (int i = 0; i < now.stones.size(); i++) {
            if (now.stones.get(i).there && now.stones.get(i).hasCell(x, y)) {
                return i;
            }
        }
        return NONE;
    }

    public int touches(int stone, int what) {
        if (stone < 0 || stone >= now.stones.size() || what < 0 || what > 3) {
            return NONE;
        }
        lay();
        if (what == 0) {
            return needs[stone];
        }
        if (what == 1) {
            return now.stones.get(stone).there ? touchCount(stone, thereBits()) : NONE;
        }
        if (what == 2) {
            return bound[stone] ? 1 : 0;
        }
        int bits = 0;
        for (int j = 0; j < now.stones.size(); j++) {
            bits += touch[stone][j] && now.stones.get(j).there ? 1 << j : 0;
        }
        return bits;
    }

    public int unlawful() {
        lay();
        List<Integer> falling = fallingIn(thereBits());
        return falling.isEmpty() ? NONE : falling.get(0);
    }

    public int there() {
        return thereBits();
    }

    private void set(int bits) {
        for (int i = 0; i < now.stones.size(); i++) {
            now.stones.get(i).there = (bits & 1 << i) != 0;
        }
    }

    public int stand(int stones) {
        if (stones < 0 || stones >= 1 << now.stones.size()) {
            return no(-1);
        }
        int before = thereBits();
        set(stones);
        return yes(before);
    }

    public int falls(int stones, int what) {
        if (!areThere(stones) || what < 0 || what > 3) {
            return NONE;
        }
        lay();
        int left = thereBits() & ~stones;
        int[] rounds = fall(left);
        int stays = behind(left);
        int last = Math.max(0, Arrays.stream(rounds).max().getAsInt());
        return new int[] {Integer.bitCount(left ^ stays), last, stays, weight(left ^ stays)}[what];
    }

    public int round(int stones, int stone) {
        if (!areThere(stones) || stone < 0 || stone >= now.stones.size() || !now.stones.get(stone).there) {
            return NONE;
        }
        lay();
        return fall(thereBits() & ~stones)[stone];
    }

    public int take(int stones) {
        if (!areThere(stones)) {
            return no(-1);
        }
        lay();
        int before = thereBits();
        set(behind(before & ~stones));
        return yes(Integer.bitCount(before) - Integer.bitCount(thereBits()));
    }

    public int farm(int stones, int farm) {
        if (!areThere(stones) || farm < 0 || farm > 3) {
            return NONE;
        }
        lay();
        int gone = thereBits() ^ behind(thereBits() & ~stones);
        int many = 0;
        for (int i = 0; i < 14; i++) {
            many += (gone & 1 << i) != 0 && now.stones.get(i).farm == farm ? 1 : 0;
        }
        return many;
    }

    // ---- thieves ----

    private int best(Set<Integer> sets, int what) {
        if (what == 3) {
            return sets.size();
        }
        if (sets.isEmpty() || what < 0 || what > 3) {
            return NONE;
        }
        List<Integer> list = new ArrayList<>(sets);
        list.sort((a, b) -> {
            if (Integer.bitCount(a) != Integer.bitCount(b)) {
                return Integer.bitCount(b) - Integer.bitCount(a);
            }
            return weight(a) != weight(b) ? weight(b) - weight(a) : a - b;
        });
        int which = list.get(0);
        return what == 0 ? Integer.bitCount(which) : what == 1 ? weight(which) : which;
    }

    public int once(int what) {
        lay();
        Set<Integer> sets = new HashSet<>();
        for (int taken = 0; taken < 1 << 14; taken++) {
            if (areThere(taken) && isLawful(thereBits() - taken)) {
                sets.add(taken);
            }
        }
        return best(sets, what);
    }

    private void walk(int left, int all, Set<Integer> sets) {
        if (!isLawful(left) || !sets.add(all - left)) {
            return;
        }
        for (int i = 0; i < 14; i++) {
            if ((left & 1 << i) != 0) {
                walk(left - (1 << i), all, sets);
            }
        }
    }

    public int oneByOne(int what) {
        lay();
        Set<Integer> sets = new HashSet<>();
        walk(thereBits(), thereBits(), sets);
        return best(sets, what);
    }

    private boolean goOn(int left, int taken, List<Integer> row, Set<Integer> dead) {
        if (taken == 0) {
            return true;
        }
        if (dead.contains(taken)) {
            return false;
        }
        for (int i = 0; i < 14; i++) {
            if ((taken & 1 << i) != 0 && isLawful(left - (1 << i))) {
                row.add(i);
                if (goOn(left - (1 << i), taken - (1 << i), row, dead)) {
                    return true;
                }
                row.remove(row.size() - 1);
            }
        }
        dead.add(taken);
        return false;
    }

    public int order(int i) {
        int which = oneByOne(2);
        List<Integer> row = new ArrayList<>();
        if (which == NONE || !goOn(thereBits(), which, row, new HashSet<>())) {
            return NONE;
        }
        return i >= 0 && i < row.size() ? row.get(i) : NONE;
    }

    public int fell(int what) {
        lay();
        List<Integer> ways = new ArrayList<>();
        for (int many = 0; ways.isEmpty(); many++) {
            for (int taken = 0; taken < 1 << 14; taken++) {
                if (Integer.bitCount(taken) == many && areThere(taken) && behind(thereBits() - taken) == 0) {
                    ways.add(taken);
                }
            }
        }
        return what == 0 ? Integer.bitCount(ways.get(0)) : what == 1 ? ways.get(0) : what == 2 ? ways.size() : NONE;
    }

    public int gate(int x, int y, int u, int v, int what) {
        if (x < 0 || y < 0 || x > u || y > v || u > 11 || v > 7 || what < 0 || what > 2) {
            return NONE;
        }
        lay();
        Set<Integer> taken = new HashSet<>();
        for (int cx = x; cx <= u; cx++) {
            for (int cy = y; cy <= v; cy++) {
                taken.add(at(cx, cy));
            }
        }
        taken.remove(NONE);
        int left = thereBits();
        for (int i : taken) {
            left -= 1 << i;
        }
        int stays = behind(left);
        return new int[] {Integer.bitCount(thereBits() ^ stays), taken.size(), stays}[what];
    }

    public int mend(int what) {
        lay();
        List<Integer> ways = new ArrayList<>();
        for (int many = 0; many <= 8 && ways.isEmpty(); many++) {
            for (int some = 0; some < 1 << now.spares.size(); some++) {
                if (Integer.bitCount(some) == many && isLawful(thereBits() + (some << 14))) {
                    ways.add(some);
                }
            }
        }
        if (what == 2) {
            return ways.size();
        }
        return ways.isEmpty() || what < 0 || what > 2 ? NONE : what == 0 ? Integer.bitCount(ways.get(0)) : ways.get(0);
    }

    private boolean wins(int left, Map<Integer, Boolean> memory) {
        Boolean known = memory.get(left);
        if (known == null) {
            known = false;
            for (int i = 0; i < 14 && !known; i++) {
                if ((left & 1 << i) != 0 && isLawful(left - (1 << i))) {
                    known = !wins(left - (1 << i), memory);
                }
            }
            memory.put(left, known);
        }
        return known;
    }

    public int game(int what) {
        lay();
        Map<Integer, Boolean> memory = new HashMap<>();
        int stone = NONE;
        int many = 0;
        for (int i = 13; i >= 0; i--) {
            int left = thereBits() & ~(1 << i);
            if (left != thereBits() && isLawful(left)) {
                many++;
                stone = wins(left, memory) ? stone : i;
            }
        }
        return what == 0 ? (stone == NONE ? 0 : 1) : what == 1 ? stone : what == 2 ? many : NONE;
    }

    public int night(int stones, int what) {
        if (!areThere(stones) || what < 0 || what > 3) {
            return NONE;
        }
        lay();
        List<Integer> found = new ArrayList<>();
        for (int i = 0; i < 14; i++) {
            if (what < 2 && areThere(1 << i) && behind(thereBits() - (1 << i)) == stones) {
                found.add(i);
            }
            for (int j = i + 1; j < 14; j++) {
                int pair = (1 << i) + (1 << j);
                if (what >= 2 && areThere(pair) && behind(thereBits() - pair) == stones) {
                    found.add(pair);
                }
            }
        }
        return what % 2 == 0 ? found.size() : found.isEmpty() ? NONE : found.get(0);
    }

    // ---- winters, images ----

    public int winters(int seed, int many) {
        if (seed < 0 || seed > 1000000 || many < 1 || many > 40) {
            return no(-1);
        }
        lay();
        winters = new ArrayList<>();
        BigInteger s = BigInteger.valueOf(seed);
        int set = thereBits();
        for (int n = 0; n < many; n++) {
            int left = set;
            for (int i = 0; i < now.stones.size(); i++) {
                if ((set & 1 << i) != 0) {
                    s = s.multiply(BigInteger.valueOf(1103)).add(BigInteger.valueOf(12345));
                    s = s.mod(BigInteger.valueOf(1000003));
                    if (s.intValue() % 100 < now.stones.get(i).frost) {
                        left -= 1 << i;
                    }
                }
            }
            set = behind(left);
            int back = NONE;
            for (int i = now.stones.size() - 1; i >= 0; i--) {
                if ((set & 1 << i) == 0 && (back == NONE
                    || fallingIn(set + (1 << i)).size() <= fallingIn(set + (1 << back)).size())) {
                    back = i;
                }
            }
            set += back == NONE ? 0 : 1 << back;
            winters.add(set);
        }
        return yes(Integer.bitCount(set));
    }

    public int winter(int i) {
        return i >= 0 && i < winters.size() ? winters.get(i) : NONE;
    }

    public int image(int k) {
        if (k != 0 && k != 1) {
            return no(-1);
        }
        images[k] = now.copy();
        return yes(0);
    }

    public int back(int k) {
        if (k != 0 && k != 1) {
            return no(-1);
        }
        if (images[k] == null) {
            return no(-2);
        }
        now = images[k].copy();
        return yes(0);
    }

    public int count(int what) {
        if (what < 0 || what > 13) {
            return NONE;
        }
        return new int[] {
            now.stones.size(), Integer.bitCount(thereBits()), now.spares.size(), now.laws.size(), tape.size(),
            refused.getOrDefault(-1, 0), refused.getOrDefault(-2, 0), refused.getOrDefault(-3, 0),
            refused.getOrDefault(-5, 0), refused.getOrDefault(-6, 0),
            now.force, now.terms[0], now.terms[1], now.terms[2]}[what];
    }

    public int status() {
        return status;
    }
}
