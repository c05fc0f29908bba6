/**
 * A wall in which each stone must touch so many others or it falls, as ../shared/DOC.md promises it.
 * A set of stones is an int of bits; the spare stones' bits stand behind the stones' (from bit 14 on),
 * so that one set can hold both.
 */
public final class FiveTouch {
    public static final int NONE = -1;

    private static final int CANT_BE = -1;
    private static final int NO_SUCH = -2;
    private static final int IN_THE_WAY = -3;
    private static final int NO_ROOM = -5;
    private static final int BAD_TEXT = -6;

    private static final int GRID_WIDE = 12;
    private static final int GRID_TALL = 8;
    private static final int LONGEST = 6;
    private static final int STONES = 14;
    private static final int SPARES = 8;
    private static final int PLACES = STONES + SPARES;
    private static final int SETS = 1 << STONES;

    /** What is kept of each place, in the order in which of() asks for it. */
    private static final int X = 0;
    private static final int Y = 1;
    private static final int WIDE = 2;
    private static final int TALL = 3;
    private static final int WEIGHT = 4;
    private static final int FARM = 5;
    private static final int FROST = 6;
    private static final int FACTS = 7;

    private static final int MOST_WEIGHT = 99;
    private static final int MOST_FARM = 3;
    private static final int MOST_FROST = 100;

    private static final int NEED = 0;
    private static final int GROUND = 1;
    private static final int SIDE = 2;
    private static final int TERMS = 3;
    private static final int MOST_NEED = 12;
    private static final int MOST_HOLD = 9;

    private static final int LAWS = 6;
    private static final int TAPE = 400;
    private static final int FED = 20;
    private static final int IMAGES = 2;
    private static final int REFUSALS = 5;

    private final Wall wall = new Wall();
    private final Wall[] images = {new Wall(), new Wall()};
    private final boolean[] kept = new boolean[IMAGES];
    private final Tape tape = new Tape();
    private final Reader reader = new Reader(tape);
    private final Frame frame = new Frame();
    private final Thieves thieves = new Thieves(wall, frame);
    private final Seasons seasons = new Seasons();
    private final int[] refused = new int[REFUSALS];
    private int latestRefusal;
    private int latestFault = NONE;
    private int latestRubble;
    private boolean stale = true;

    public FiveTouch() {
    }

    // ---- stones, terms ----

    public int stone(int x, int y, int wide, int tall, int weight) {
        int why = hindrance(x, y, wide, tall, weight, wall.stones < STONES);
        if (why != 0) {
            return refuse(why);
        }
        stale = true;
        return accept(wall.addStone(x, y, wide, tall, weight));
    }

    public int spare(int x, int y, int wide, int tall, int weight) {
        int why = hindrance(x, y, wide, tall, weight, wall.spares < SPARES);
        if (why != 0) {
            return refuse(why);
        }
        stale = true;
        return accept(wall.addSpare(x, y, wide, tall, weight));
    }

    public int put(int stone, int what, int value) {
        boolean good = what == 0 && isWithin(value, 1, MOST_WEIGHT)
            || what == 1 && isWithin(value, 0, MOST_FARM)
            || what == 2 && isWithin(value, 0, MOST_FROST);
        if (!good) {
            return refuse(CANT_BE);
        }
        if (!wall.isStone(stone)) {
            return refuse(NO_SUCH);
        }
        stale = true;
        return accept(wall.change(stone, WEIGHT + what, value));
    }

    public int of(int stone, int what) {
        if (!wall.isStone(stone) || !isWithin(what, 0, FACTS)) {
            return NONE;
        }
        return what == FACTS ? wall.there >> stone & 1 : wall.fact(stone, what);
    }

    public int terms(int what, int value) {
        if (!isWithin(what, 0, TERMS - 1) || !isWithin(value, 0, what == NEED ? MOST_NEED : MOST_HOLD)) {
            return refuse(CANT_BE);
        }
        stale = true;
        return accept(wall.changeTerm(what, value));
    }

    // ---- the tape, rows and laws ----

    public int feed(int a, int b, int c, int d, int e) {
        if (tape.length + FED > TAPE) {
            return NONE;
        }
        tape.add(a);
        tape.add(b);
        tape.add(c);
        tape.add(d);
        tape.add(e);
        return tape.length;
    }

    public int end(int n) {
        if (!isWithin(n, 0, tape.length)) {
            return NONE;
        }
        tape.length = n;
        return n;
    }

    public int row() {
        if (tape.length == 0) {
            return refuse(BAD_TEXT);
        }
        int came = 0;
        latestRubble = 0;
        for (int i = 0; i < tape.length; i += 5) {
            if (addFromTape(i)) {
                came++;
            } else {
                latestRubble++;
            }
        }
        tape.length = 0;
        stale = true;
        return accept(came);
    }

    public int rubble() {
        return latestRubble;
    }

    public int law() {
        int length = tape.length;
        // Empty however this ends; its bytes stay till they are read.
        tape.length = 0;
        if (wall.lawCount >= LAWS) {
            return refuse(NO_ROOM);
        }
        Law law = reader.read(length);
        latestFault = reader.faultPlace;
        if (law == null) {
            return refuse(BAD_TEXT);
        }
        return accept(wall.addLaw(law));
    }

    public int fault() {
        return latestFault;
    }

    public int force(int law) {
        if (law != NONE && !isWithin(law, 0, wall.lawCount - 1)) {
            return refuse(NO_SUCH);
        }
        int before = wall.inForce;
        wall.inForce = law;
        stale = true;
        return accept(before);
    }

    // ---- the wall as it is ----

    public int at(int x, int y) {
        for (int i = 0; i < wall.stones; i++) {
            if ((wall.there >> i & 1) != 0 && wall.covers(i, x, y, 1, 1)) {
                return i;
            }
        }
        return NONE;
    }

    public int touches(int stone, int what) {
        if (!wall.isStone(stone)) {
            return NONE;
        }
        refresh();
        switch (what) {
            case 0:
                return frame.needOf(stone);
            case 1:
                return (wall.there >> stone & 1) == 0 ? NONE : frame.touchesOf(stone, wall.there);
            case 2:
                return frame.isBound(stone) ? 1 : 0;
            case 3:
                return frame.besideOf(stone) & wall.there;
            default:
                return NONE;
        }
    }

    public int unlawful() {
        refresh();
        int unsteady = frame.unsteady(wall.there);
        for (int i = 0; i < STONES; i++) {
            if ((unsteady >> i & 1) != 0) {
                return i;
            }
        }
        return NONE;
    }

    public int there() {
        return wall.there;
    }

    public int stand(int stones) {
        if (!isPart(stones, wall.allStones())) {
            return refuse(CANT_BE);
        }
        int before = wall.there;
        wall.there = stones;
        stale = true;
        return accept(before);
    }

    // ---- what falls ----

    public int falls(int stones, int what) {
        if (!isPart(stones, wall.there)) {
            return NONE;
        }
        refresh();
        int left = wall.there & ~stones;
        int stays = frame.settled(left);
        switch (what) {
            case 0:
                return Integer.bitCount(left & ~stays);
            case 1:
                return frame.rounds(left);
            case 2:
                return stays;
            case 3:
                return wall.weightOf(left & ~stays);
            default:
                return NONE;
        }
    }

    public int round(int stones, int stone) {
        if (!isPart(stones, wall.there) || !wall.isStone(stone) || (wall.there >> stone & 1) == 0) {
            return NONE;
        }
        refresh();
        return frame.roundOf(wall.there & ~stones, stone);
    }

    public int take(int stones) {
        if (!isPart(stones, wall.there)) {
            return refuse(CANT_BE);
        }
        refresh();
        int before = wall.there;
        wall.there = frame.settled(before & ~stones);
        stale = true;
        return accept(Integer.bitCount(before & ~wall.there));
    }

    public int farm(int stones, int farm) {
        if (!isPart(stones, wall.there) || !isWithin(farm, 0, MOST_FARM)) {
            return NONE;
        }
        refresh();
        int gone = wall.there & ~frame.settled(wall.there & ~stones);
        int many = 0;
        for (int i = 0; i < wall.stones; i++) {
            if ((gone >> i & 1) != 0 && wall.fact(i, FARM) == farm) {
                many++;
            }
        }
        return many;
    }

    // ---- thieves ----

    public int once(int what) {
        refresh();
        return thieves.atOnce().told(what);
    }

    public int oneByOne(int what) {
        refresh();
        return thieves.inSteps().told(what);
    }

    public int order(int i) {
        refresh();
        thieves.inSteps();
        return thieves.stepTaken(i);
    }

    public int fell(int what) {
        refresh();
        return thieves.felling().told(what);
    }

    public int gate(int x, int y, int u, int v, int what) {
        if (x < 0 || x > u || u >= GRID_WIDE || y < 0 || y > v || v >= GRID_TALL) {
            return NONE;
        }
        int taken = 0;
        for (int i = 0; i < wall.stones; i++) {
            if (wall.covers(i, x, y, u - x + 1, v - y + 1)) {
                taken |= 1 << i;
            }
        }
        taken &= wall.there;
        refresh();
        int stays = frame.settled(wall.there & ~taken);
        switch (what) {
            case 0:
                return Integer.bitCount(wall.there & ~stays);
            case 1:
                return Integer.bitCount(taken);
            case 2:
                return stays;
            default:
                return NONE;
        }
    }

    public int mend(int what) {
        refresh();
        return thieves.mending().told(what);
    }

    public int game(int what) {
        refresh();
        thieves.play();
        switch (what) {
            case 0:
                return thieves.winningStone == NONE ? 0 : 1;
            case 1:
                return thieves.winningStone;
            case 2:
                return thieves.stonesToTake;
            default:
                return NONE;
        }
    }

    public int night(int stones, int what) {
        if (!isPart(stones, wall.there)) {
            return NONE;
        }
        refresh();
        switch (what) {
            case 0:
                return frame.singles(wall.there, stones, false);
            case 1:
                return frame.singles(wall.there, stones, true);
            case 2:
                return frame.pairs(wall.there, stones, false);
            case 3:
                return frame.pairs(wall.there, stones, true);
            default:
                return NONE;
        }
    }

    // ---- winters, images, counts ----

    public int winters(int seed, int many) {
        if (!isWithin(seed, 0, Seasons.MOST_SEED) || !isWithin(many, 1, Seasons.MOST)) {
            return refuse(CANT_BE);
        }
        refresh();
        return accept(seasons.pass(wall, frame, seed, many));
    }

    public int winter(int i) {
        return seasons.leftBehind(i);
    }

    public int image(int k) {
        if (!isWithin(k, 0, IMAGES - 1)) {
            return refuse(CANT_BE);
        }
        images[k].becomeAs(wall);
        kept[k] = true;
        return accept(0);
    }

    public int back(int k) {
        if (!isWithin(k, 0, IMAGES - 1)) {
            return refuse(CANT_BE);
        }
        if (!kept[k]) {
            return refuse(NO_SUCH);
        }
        wall.becomeAs(images[k]);
        stale = true;
        return accept(0);
    }

    public int count(int what) {
        if (isWithin(what, 5, 4 + REFUSALS)) {
            return refused[what - 5];
        }
        if (isWithin(what, 11, 10 + TERMS)) {
            return wall.term(what - 11);
        }
        switch (what) {
            case 0:
                return wall.stones;
            case 1:
                return Integer.bitCount(wall.there);
            case 2:
                return wall.spares;
            case 3:
                return wall.lawCount;
            case 4:
                return tape.length;
            case 10:
                return wall.inForce;
            default:
                return NONE;
        }
    }

    public int status() {
        return latestRefusal;
    }

    // ---- helpers ----

    private int refuse(int why) {
        latestRefusal = why;
        // There is no -4, so what lies beyond it moves up by one.
        int slot = why >= IN_THE_WAY ? -1 - why : -2 - why;
        if (isWithin(slot, 0, REFUSALS - 1)) {
            refused[slot]++;
        }
        return why;
    }

    private int accept(int answer) {
        latestRefusal = 0;
        return answer;
    }

    /** Why a stone can't come: the first refusal in the document's order, or 0. */
    private int hindrance(int x, int y, int wide, int tall, int weight, boolean isRoom) {
        boolean can = isWithin(x, 0, GRID_WIDE - 1) && isWithin(y, 0, GRID_TALL - 1)
            && isWithin(wide, 1, LONGEST) && isWithin(tall, 1, LONGEST)
            && x + wide <= GRID_WIDE && y + tall <= GRID_TALL
            && isWithin(weight, 1, MOST_WEIGHT);
        if (!can) {
            return CANT_BE;
        }
        if (wall.isTaken(x, y, wide, tall)) {
            return IN_THE_WAY;
        }
        return isRoom ? 0 : NO_ROOM;
    }

    /** Whether the five bytes from there on, if the tape has so many, became a stone. */
    private boolean addFromTape(int from) {
        if (from + 5 > tape.length) {
            return false;
        }
        int x = tape.byteAt(from);
        int y = tape.byteAt(from + 1);
        int wide = tape.byteAt(from + 2);
        int tall = tape.byteAt(from + 3);
        int weight = tape.byteAt(from + 4);
        if (hindrance(x, y, wide, tall, weight, wall.stones < STONES) != 0) {
            return false;
        }
        wall.addStone(x, y, wide, tall, weight);
        return true;
    }

    /** Ahead of every question that depends on what the stones need. */
    private void refresh() {
        if (stale) {
            frame.renew(wall);
            thieves.forget();
            stale = false;
        }
    }

    private static boolean isWithin(int value, int least, int most) {
        return value >= least && value <= most;
    }

    private static boolean isPart(int set, int whole) {
        return (set & ~whole) == 0;
    }

    // ---- classes ----

    /** All that an image keeps. */
    private static final class Wall {
        final int[] facts = new int[PLACES * FACTS];
        final int[] termValues = {5, 2, 1};
        final Law[] laws = new Law[LAWS];
        int stones;
        int spares;
        int there;
        int lawCount;
        int inForce = NONE;

        void becomeAs(Wall other) {
            for (int i = 0; i < PLACES * FACTS; i++) {
                facts[i] = other.facts[i];
            }
            for (int i = 0; i < TERMS; i++) {
                termValues[i] = other.termValues[i];
            }
            // A law never changes once it is made, so both walls may hold the same one.
            for (int i = 0; i < LAWS; i++) {
                laws[i] = other.laws[i];
            }
            stones = other.stones;
            spares = other.spares;
            there = other.there;
            lawCount = other.lawCount;
            inForce = other.inForce;
        }

        int addStone(int x, int y, int wide, int tall, int weight) {
            int number = stones;
            stones++;
            there |= 1 << number;
            lay(number, x, y, wide, tall, weight);
            return number;
        }

        int addSpare(int x, int y, int wide, int tall, int weight) {
            int number = spares;
            spares++;
            lay(STONES + number, x, y, wide, tall, weight);
            return number;
        }

        private void lay(int place, int x, int y, int wide, int tall, int weight) {
            change(place, X, x);
            change(place, Y, y);
            change(place, WIDE, wide);
            change(place, TALL, tall);
            change(place, WEIGHT, weight);
            // Whatever the place was ahead of that, a new stone has neither.
            change(place, FARM, 0);
            change(place, FROST, 0);
        }

        int change(int place, int what, int value) {
            if (!isWithin(place, 0, PLACES - 1) || !isWithin(what, 0, FACTS - 1)) {
                return NONE;
            }
            int before = facts[place * FACTS + what];
            facts[place * FACTS + what] = value;
            return before;
        }

        int fact(int place, int what) {
            if (place < 0 || place >= PLACES || what < 0 || what >= FACTS) {
                return NONE;
            }
            return facts[place * FACTS + what];
        }

        int term(int what) {
            return isWithin(what, 0, TERMS - 1) ? termValues[what] : NONE;
        }

        int changeTerm(int what, int value) {
            int before = term(what);
            if (isWithin(what, 0, TERMS - 1)) {
                termValues[what] = value;
            }
            return before;
        }

        int addLaw(Law law) {
            int number = lawCount;
            if (!isWithin(number, 0, LAWS - 1)) {
                return NONE;
            }
            laws[number] = law;
            lawCount++;
            return number;
        }

        Law lawInForce() {
            return isWithin(inForce, 0, LAWS - 1) ? laws[inForce] : null;
        }

        boolean isStone(int number) {
            return isWithin(number, 0, stones - 1);
        }

        /** Whether a stone or a spare one has that place. */
        boolean isPlace(int place) {
            return isStone(place) || isWithin(place, STONES, STONES + spares - 1);
        }

        int allStones() {
            return (1 << stones) - 1;
        }

        /** Whether a place has a cell of the oblong from x, y on. */
        boolean covers(int place, int x, int y, int wide, int tall) {
            return isWithin(x, fact(place, X) - wide + 1, fact(place, X) + fact(place, WIDE) - 1)
                && isWithin(y, fact(place, Y) - tall + 1, fact(place, Y) + fact(place, TALL) - 1);
        }

        boolean isTaken(int x, int y, int wide, int tall) {
            for (int i = 0; i < PLACES; i++) {
                if (isPlace(i) && covers(i, x, y, wide, tall)) {
                    return true;
                }
            }
            return false;
        }

        int weightOf(int set) {
            int sum = 0;
            for (int i = 0; i < STONES; i++) {
                if ((set >> i & 1) != 0) {
                    sum += fact(i, WEIGHT);
                }
            }
            return sum;
        }
    }

    /** The bytes that were fed. */
    private static final class Tape {
        final int[] bytes = new int[TAPE];
        int length;

        void add(int number) {
            for (int shift = 24; shift >= 0; shift -= 8) {
                if (isWithin(length, 0, TAPE - 1)) {
                    bytes[length] = number >>> shift & 255;
                    length++;
                }
            }
        }

        int byteAt(int i) {
            return i >= 0 && i < TAPE ? bytes[i] : NONE;
        }
    }

    /**
     * A text that was read, as steps for a stack. Of clause c, the sum's steps go from starts[2c] and the
     * test's from starts[2c + 1] on; a "bound" has no sum, a clause without "if" no test.
     */
    private static final class Law {
        static final int NUMBER = 0;
        static final int FACT = 1;
        static final int PLUS = 2;
        static final int MINUS = 3;
        static final int TIMES = 4;
        static final int DIVIDED = 5;
        static final int LESS = 6;
        static final int MORE = 7;
        static final int SAME = 8;
        static final int NOT = 9;
        static final int AND = 10;
        static final int OR = 11;

        /** A step is its kind, then ten bits of a number, a fact, or the step to go on at. */
        static final int BITS = 10;
        static final int MASK = (1 << BITS) - 1;

        final int[] steps;
        final int[] starts;
        final int clauses;

        Law(int[] steps, int many, int[] starts, int clauses) {
            this.steps = new int[Math.max(0, many)];
            for (int i = 0; i < many && i < steps.length; i++) {
                this.steps[i] = steps[i];
            }
            this.starts = new int[2 * Math.max(0, clauses) + 1];
            for (int i = 0; i < 2 * clauses && i < starts.length; i++) {
                this.starts[i] = starts[i];
            }
            this.starts[this.starts.length - 1] = this.steps.length;
            this.clauses = clauses;
        }

        int stepAt(int i) {
            return i >= 0 && i < steps.length ? steps[i] : 0;
        }

        /** Where part i starts; parts are sum, test, sum, test and so on. */
        int startOf(int part) {
            return part >= 0 && part < starts.length ? starts[part] : steps.length;
        }

        boolean isEmptyPart(int part) {
            return startOf(part) >= startOf(part + 1);
        }
    }

    /** Reads a text by descent; a method that answers false stands at the token that can't go on. */
    private static final class Reader {
        static final int MOST_CLAUSES = 12;
        static final int MOST_PARTS = 50;
        static final int MOST_BRACKETS = 8;
        static final int MOST_NUMBER = 1000;
        static final int BLANK = 32;
        static final int LETTER = 0;
        static final int DIGIT = 1;
        static final int SINGLE = 2;

        /** Each token makes one step at most. */
        final int[] steps = new int[TAPE];
        final int[] starts = new int[2 * MOST_CLAUSES];
        final Tape text;
        int length;
        int from;
        int to;
        int stepCount;
        int startCount;
        int partCount;
        int faultPlace = NONE;

        Reader(Tape text) {
            this.text = text;
        }

        /** The law that the first so many bytes are, or null and where they can't go on. */
        Law read(int many) {
            length = many;
            to = 0;
            stepCount = 0;
            startCount = 0;
            partCount = 0;
            advance();
            boolean good = readClause();
            int clauses = 1;
            for (int i = 0; i < MOST_CLAUSES && good && is(";"); i++) {
                advance();
                good = clauses < MOST_CLAUSES && readClause();
                clauses++;
            }
            if (!good || from < length) {
                faultPlace = from;
                return null;
            }
            faultPlace = NONE;
            return new Law(steps, stepCount, starts, clauses);
        }

        private boolean readClause() {
            mark();
            boolean good = is("bound");
            if (good) {
                advance();
            } else if (is("needs")) {
                advance();
                good = readSum(0);
            }
            mark();
            if (good && is("if")) {
                advance();
                return readTest(0);
            }
            return good;
        }

        private boolean readTest(int depth) {
            boolean good = readBoth(depth);
            for (int i = 0; i < TAPE && good && is("or"); i++) {
                int jump = addStep(Law.OR, 0);
                advance();
                good = readBoth(depth);
                aimHere(jump);
            }
            return good;
        }

        private boolean readBoth(int depth) {
            boolean good = readPlain(depth);
            for (int i = 0; i < TAPE && good && is("and"); i++) {
                int jump = addStep(Law.AND, 0);
                advance();
                good = readPlain(depth);
                aimHere(jump);
            }
            return good;
        }

        private boolean readPlain(int depth) {
            boolean turned = false;
            // A loop, not a descent: a text has room for a hundred of them in a row.
            for (int i = 0; i < TAPE && is("not"); i++) {
                turned = !turned;
                advance();
            }
            boolean good = is("(") ? readBracketed(depth, true, ")") : readCompared(depth);
            if (turned) {
                addStep(Law.NOT, 0);
            }
            return good;
        }

        private boolean readCompared(int depth) {
            if (!readSum(depth)) {
                return false;
            }
            int kind = is("<") ? Law.LESS : is(">") ? Law.MORE : is("=") ? Law.SAME : NONE;
            if (kind == NONE) {
                return false;
            }
            advance();
            boolean good = readSum(depth);
            addStep(kind, 0);
            return good;
        }

        private boolean readSum(int depth) {
            boolean good = readTerm(depth);
            for (int i = 0; i < TAPE && good && (is("+") || is("-")); i++) {
                int kind = is("+") ? Law.PLUS : Law.MINUS;
                advance();
                good = readTerm(depth);
                addStep(kind, 0);
            }
            return good;
        }

        private boolean readTerm(int depth) {
            boolean good = readPart(depth);
            for (int i = 0; i < TAPE && good && (is("*") || is("/")); i++) {
                int kind = is("*") ? Law.TIMES : Law.DIVIDED;
                advance();
                good = readPart(depth);
                addStep(kind, 0);
            }
            return good;
        }

        private boolean readPart(int depth) {
            if (is("[")) {
                return readBracketed(depth, false, "]");
            }
            int fact = namedFact();
            int number = numberTold();
            if (partCount >= MOST_PARTS || fact == NONE && number == NONE) {
                return false;
            }
            partCount++;
            if (fact == NONE) {
                addStep(Law.NUMBER, number);
            } else {
                addStep(Law.FACT, fact);
            }
            advance();
            return true;
        }

        /** A test or a sum in a bracket that stands open here. */
        private boolean readBracketed(int depth, boolean isTest, String closing) {
            if (depth >= MOST_BRACKETS) {
                return false;
            }
            advance();
            boolean good = isTest ? readTest(depth + 1) : readSum(depth + 1);
            if (!good || !is(closing)) {
                return false;
            }
            advance();
            return true;
        }

        /** The fact that the token names (FACTS for the stone's own number), or NONE. */
        private int namedFact() {
            if (is("stone")) {
                return FACTS;
            }
            if (is("x")) {
                return X;
            }
            if (is("y")) {
                return Y;
            }
            if (is("wide")) {
                return WIDE;
            }
            if (is("tall")) {
                return TALL;
            }
            if (is("weight")) {
                return WEIGHT;
            }
            if (is("farm")) {
                return FARM;
            }
            return is("frost") ? FROST : NONE;
        }

        /** The number that the token is, or NONE if it is none or too high. */
        private int numberTold() {
            if (from >= length || sortOf(text.byteAt(from)) != DIGIT) {
                return NONE;
            }
            int number = 0;
            for (int i = from; i < to && number <= MOST_NUMBER; i++) {
                number = number * 10 + text.byteAt(i) - '0';
            }
            return number <= MOST_NUMBER ? number : NONE;
        }

        /** Goes to the next token: from .. to, both the text's length at its end. */
        private void advance() {
            from = to;
            while (from < length && text.byteAt(from) == BLANK) {
                from++;
            }
            to = Math.min(from + 1, length);
            int sort = sortOf(text.byteAt(from));
            while (to < length && sort != SINGLE && sortOf(text.byteAt(to)) == sort) {
                to++;
            }
        }

        private static int sortOf(int letter) {
            if (letter >= 'a' && letter <= 'z') {
                return LETTER;
            }
            return letter >= '0' && letter <= '9' ? DIGIT : SINGLE;
        }

        private boolean is(String word) {
            if (to - from != word.length()) {
                return false;
            }
            for (int i = 0; i < word.length(); i++) {
                if (text.byteAt(from + i) != word.charAt(i)) {
                    return false;
                }
            }
            return true;
        }

        private int addStep(int kind, int number) {
            if (!isWithin(stepCount, 0, TAPE - 1)) {
                return NONE;
            }
            steps[stepCount] = kind << Law.BITS | number & Law.MASK;
            stepCount++;
            return stepCount - 1;
        }

        /** Lets a jump go on at the next step that will be added. */
        private void aimHere(int jump) {
            if (isWithin(jump, 0, TAPE - 1)) {
                steps[jump] |= stepCount & Law.MASK;
            }
        }

        private void mark() {
            if (isWithin(startCount, 0, starts.length - 1)) {
                starts[startCount] = stepCount;
                startCount++;
            }
        }
    }

    /** Asks a law of a place. All that is asked and BROKEN breaks the whole, so one flag tells it. */
    private static final class Asker {
        static final long FAR = 1000000000L;

        final long[] stack = new long[64];
        int height;
        boolean broken;

        /** What the last "needs" that holds tells, or what is due without. */
        int need(Law law, Wall wall, int place, int without) {
            int need = without;
            for (int c = 0; c < law.clauses; c++) {
                if (!law.isEmptyPart(2 * c) && isSo(law, 2 * c + 1, wall, place)) {
                    long told = value(law, 2 * c, wall, place);
                    need = broken ? need : (int) Math.max(0, Math.min(MOST_NEED, told));
                }
            }
            return need;
        }

        boolean isBound(Law law, Wall wall, int place) {
            for (int c = 0; c < law.clauses; c++) {
                if (law.isEmptyPart(2 * c) && isSo(law, 2 * c + 1, wall, place)) {
                    return true;
                }
            }
            return false;
        }

        private boolean isSo(Law law, int part, Wall wall, int place) {
            return law.isEmptyPart(part) || value(law, part, wall, place) != 0 && !broken;
        }

        private long value(Law law, int part, Wall wall, int place) {
            height = 0;
            broken = false;
            int till = law.startOf(part + 1);
            for (int i = law.startOf(part); i < till && !broken; i++) {
                int kind = law.stepAt(i) >> Law.BITS;
                int number = law.stepAt(i) & Law.MASK;
                if (kind == Law.NUMBER) {
                    push(number);
                } else if (kind == Law.FACT) {
                    push(number == FACTS ? place : wall.fact(place, number));
                } else if (kind == Law.NOT) {
                    push(pop() == 0 ? 1 : 0);
                } else if (kind == Law.AND || kind == Law.OR) {
                    long first = pop();
                    if ((first != 0) == (kind == Law.OR)) {
                        push(first);
                        i = Math.max(i, number - 1);
                    }
                } else {
                    long second = pop();
                    push(joined(kind, pop(), second));
                }
            }
            return pop();
        }

        private long joined(int kind, long a, long b) {
            if (kind == Law.LESS) {
                return a < b ? 1 : 0;
            }
            if (kind == Law.MORE) {
                return a > b ? 1 : 0;
            }
            if (kind == Law.SAME) {
                return a == b ? 1 : 0;
            }
            long value = 0;
            if (kind == Law.PLUS) {
                value = a + b;
            } else if (kind == Law.MINUS) {
                value = a - b;
            } else if (kind == Law.TIMES) {
                value = a * b;
            } else if (b == 0) {
                broken = true;
            } else {
                value = a / b;
            }
            broken = broken || value > FAR || value < -FAR;
            return value;
        }

        private void push(long value) {
            if (height >= 0 && height < stack.length) {
                stack[height] = value;
                height++;
            }
        }

        private long pop() {
            if (height < 1 || height > stack.length) {
                return 0;
            }
            height--;
            return stack[height];
        }
    }

    /** What follows from the wall whoever is there: who lies beside whom, and what each needs. */
    private static final class Frame {
        final Asker asker = new Asker();
        final int[] beside = new int[PLACES];
        final int[] needs = new int[PLACES];
        /** Touches that a place has of the ground and the grid's sides. */
        final int[] held = new int[PLACES];
        /** Others that it must touch to stand: none if it is bound. */
        final int[] lack = new int[PLACES];
        int bound;

        void renew(Wall wall) {
            Law law = wall.lawInForce();
            bound = 0;
            for (int i = 0; i < PLACES; i++) {
                beside[i] = 0;
                if (wall.isPlace(i)) {
                    beside[i] = neighbours(wall, i);
                    held[i] = heldOf(wall, i);
                    needs[i] = wall.term(NEED);
                    if (law != null) {
                        needs[i] = asker.need(law, wall, i, wall.term(NEED));
                        bound |= asker.isBound(law, wall, i) ? 1 << i : 0;
                    }
                    lack[i] = isBound(i) ? 0 : needs[i] - held[i];
                }
            }
        }

        private static int neighbours(Wall wall, int place) {
            int x = wall.fact(place, X);
            int y = wall.fact(place, Y);
            int wide = wall.fact(place, WIDE);
            int tall = wall.fact(place, TALL);
            int set = 0;
            for (int i = 0; i < PLACES; i++) {
                // Made longer by a cell at both ends, in one direction at a time: corners do not touch.
                boolean touching = i != place && wall.isPlace(i)
                    && (wall.covers(i, x - 1, y, wide + 2, tall) || wall.covers(i, x, y - 1, wide, tall + 2));
                if (touching) {
                    set |= 1 << i;
                }
            }
            return set;
        }

        private static int heldOf(Wall wall, int place) {
            int sum = wall.fact(place, Y) == 0 ? wall.term(GROUND) : 0;
            if (wall.fact(place, X) == 0) {
                sum += wall.term(SIDE);
            }
            if (wall.fact(place, X) + wall.fact(place, WIDE) == GRID_WIDE) {
                sum += wall.term(SIDE);
            }
            return sum;
        }

        int needOf(int place) {
            return isWithin(place, 0, PLACES - 1) ? needs[place] : NONE;
        }

        int besideOf(int place) {
            return isWithin(place, 0, PLACES - 1) ? beside[place] : 0;
        }

        boolean isBound(int place) {
            return isWithin(place, 0, PLACES - 1) && (bound >> place & 1) != 0;
        }

        int touchesOf(int place, int set) {
            if (!isWithin(place, 0, PLACES - 1)) {
                return NONE;
            }
            return Integer.bitCount(beside[place] & set) + held[place];
        }

        boolean isLawful(int set) {
            for (int i = 0; i < PLACES && set >> i != 0; i++) {
                if ((set >> i & 1) != 0 && Integer.bitCount(beside[i] & set) < lack[i]) {
                    return false;
                }
            }
            return set != 0;
        }

        /** Those of a set that do not stand in it. */
        int unsteady(int set) {
            int found = 0;
            for (int i = 0; i < PLACES && set >> i != 0; i++) {
                if ((set >> i & 1) != 0 && Integer.bitCount(beside[i] & set) < lack[i]) {
                    found |= 1 << i;
                }
            }
            return found;
        }

        /** What is there behind the fall. */
        int settled(int set) {
            int left = set;
            int falling = unsteady(left);
            for (int i = 0; i < PLACES && falling != 0; i++) {
                left &= ~falling;
                falling = unsteady(left);
            }
            return left;
        }

        int rounds(int set) {
            int left = set;
            int falling = unsteady(left);
            int many = 0;
            for (int i = 0; i < PLACES && falling != 0; i++) {
                many++;
                left &= ~falling;
                falling = unsteady(left);
            }
            return many;
        }

        /** The round in which a stone falls: 0 if it was out of the set ahead of that, NONE if it stays. */
        int roundOf(int set, int stone) {
            int left = set;
            int many = rounds(set);
            for (int i = 0; i <= many; i++) {
                if ((left >> stone & 1) == 0) {
                    return i;
                }
                left &= ~unsteady(left);
            }
            return NONE;
        }

        /** How many single stones, or the lowest, if they were taken of a set and so many were left. */
        int singles(int set, int leaving, boolean isLowest) {
            int many = 0;
            for (int i = 0; i < STONES; i++) {
                int bit = 1 << i & set;
                if (bit != 0 && settled(set & ~bit) == leaving) {
                    if (isLowest) {
                        return i;
                    }
                    many++;
                }
            }
            return isLowest ? NONE : many;
        }

        /** As singles, of pairs; the lowest one as bits. */
        int pairs(int set, int leaving, boolean isLowest) {
            int many = 0;
            for (int i = 0; i < STONES; i++) {
                for (int j = i + 1; j < STONES; j++) {
                    int pair = 1 << i | 1 << j;
                    if ((pair & set) == pair && settled(set & ~pair) == leaving) {
                        if (isLowest) {
                            return pair;
                        }
                        many++;
                    }
                }
            }
            return isLowest ? NONE : many;
        }
    }

    /** Some of all sets of stones, a bit for each. */
    private static final class Sets {
        final long[] words = new long[SETS / 64];

        void clear() {
            for (int i = 0; i < SETS / 64; i++) {
                words[i] = 0;
            }
        }

        void add(int set) {
            if (isWithin(set, 0, SETS - 1)) {
                words[set >> 6] |= 1L << (set & 63);
            }
        }

        boolean has(int set) {
            return isWithin(set, 0, SETS - 1) && (words[set >> 6] >> (set & 63) & 1) != 0;
        }

        /** Whether it has the set without one of some stones. */
        boolean hasWithoutOne(int set, int ofThese) {
            for (int i = 0; i < STONES; i++) {
                int bit = 1 << i & ofThese & set;
                if (bit != 0 && has(set & ~bit)) {
                    return true;
                }
            }
            return false;
        }

        /** Whether it has the set with one of some stones more. */
        boolean hasWithOne(int set, int ofThese) {
            for (int i = 0; i < STONES; i++) {
                int bit = 1 << i & ofThese & ~set;
                if (bit != 0 && has(set | bit)) {
                    return true;
                }
            }
            return false;
        }
    }

    /** Of the sets offered, that of most stones, then of most weight, then the lowest as bits. */
    private static final class Most {
        int many = NONE;
        int weight = NONE;
        int which = NONE;
        int sets;

        void clear() {
            many = NONE;
            weight = NONE;
            which = NONE;
            sets = 0;
        }

        void offer(int set, Wall wall) {
            sets++;
            int size = Integer.bitCount(set);
            // Most sets are too small, and need not be weighed.
            if (size < many) {
                return;
            }
            int itsWeight = wall.weightOf(set);
            if (size > many || itsWeight > weight || itsWeight == weight && set < which) {
                many = size;
                weight = itsWeight;
                which = set;
            }
        }

        int told(int what) {
            return what == 0 ? many : what == 1 ? weight : what == 2 ? which : what == 3 ? sets : NONE;
        }
    }

    /** Of the sets offered, that of fewest stones, then the lowest as bits; how many are as small. */
    private static final class Fewest {
        int many = NONE;
        int which = NONE;
        int ways;

        void clear() {
            many = NONE;
            which = NONE;
            ways = 0;
        }

        void offer(int set) {
            int size = Integer.bitCount(set);
            if (many == NONE || size < many) {
                many = size;
                which = set;
                ways = 1;
            } else if (size == many) {
                which = Math.min(which, set);
                ways++;
            }
        }

        int told(int what) {
            return what == 0 ? many : what == 1 ? which : what == 2 ? ways : NONE;
        }
    }

    /**
     * Searches over all sets of the stones that are there. What was found is kept till the wall changes,
     * since one search answers several calls.
     */
    private static final class Thieves {
        static final int LAWFUL = 1;
        static final int ONCE = 2;
        static final int STEPS = 4;
        static final int FELLING = 8;
        static final int MENDING = 16;
        static final int GAME = 32;

        final Wall wall;
        final Frame frame;
        final Sets lawful = new Sets();
        /** For the search that is under way alone. */
        final Sets marked = new Sets();
        final Most onceFound = new Most();
        final Most stepsFound = new Most();
        final Fewest fellingFound = new Fewest();
        final Fewest mendingFound = new Fewest();
        final int[] steps = new int[STONES];
        int stepCount;
        int winningStone = NONE;
        int stonesToTake;
        /** What is there behind a fall of the wall as it is: no lawful set reaches beyond it. */
        int core;
        int known;

        Thieves(Wall wall, Frame frame) {
            this.wall = wall;
            this.frame = frame;
        }

        void forget() {
            known = 0;
        }

        /** Whether a search is still to be made; it counts as made from here on. */
        private boolean isDue(int search) {
            boolean due = (known & search) == 0;
            known |= search;
            return due;
        }

        private static int setsOf(int stones) {
            return 1 << Math.min(STONES, Integer.bitCount(stones));
        }

        private void findLawful() {
            if (!isDue(LAWFUL)) {
                return;
            }
            core = frame.settled(wall.there);
            lawful.clear();
            int many = setsOf(core);
            int set = 0;
            for (int i = 0; i < many; i++) {
                if (frame.isLawful(set)) {
                    lawful.add(set);
                }
                set = (set - core) & core;
            }
        }

        Most atOnce() {
            if (isDue(ONCE)) {
                findLawful();
                onceFound.clear();
                int many = setsOf(core);
                int left = 0;
                for (int i = 0; i < many; i++) {
                    if (lawful.has(left)) {
                        onceFound.offer(wall.there & ~left, wall);
                    }
                    left = (left - core) & core;
                }
            }
            return onceFound;
        }

        Most inSteps() {
            if (isDue(STEPS)) {
                findLawful();
                stepsFound.clear();
                stepCount = 0;
                if (lawful.has(wall.there)) {
                    findStepSets();
                    findOrder(stepsFound.which);
                }
            }
            return stepsFound;
        }

        /** From the whole wall down, so that each set comes behind those with one stone more. */
        private void findStepSets() {
            marked.clear();
            int all = wall.there;
            int many = setsOf(all);
            int left = all;
            for (int i = 0; i < many; i++) {
                if (left == all || lawful.has(left) && marked.hasWithOne(left, all)) {
                    marked.add(left);
                    stepsFound.offer(all & ~left, wall);
                }
                left = (left - 1) & all;
            }
        }

        /** Marks the sets from which the rest of the taken can still go, then goes by the lowest. */
        private void findOrder(int taken) {
            int left = wall.there & ~taken;
            int many = setsOf(taken);
            marked.clear();
            int rest = 0;
            for (int i = 0; i < many; i++) {
                if (rest == 0 || lawful.has(left | rest) && marked.hasWithoutOne(left | rest, rest)) {
                    marked.add(left | rest);
                }
                rest = (rest - taken) & taken;
            }
            int set = wall.there;
            for (int i = 0; i < STONES; i++) {
                int stone = lowestMarked(set, taken);
                if (stone != NONE) {
                    steps[i] = stone;
                    stepCount = i + 1;
                    set &= ~(1 << stone);
                }
            }
        }

        private int lowestMarked(int set, int taken) {
            for (int i = 0; i < STONES; i++) {
                int bit = 1 << i & set & taken;
                if (bit != 0 && marked.has(set & ~bit)) {
                    return i;
                }
            }
            return NONE;
        }

        /** The i-th of the steps that inSteps() found. */
        int stepTaken(int i) {
            return isWithin(i, 0, stepCount - 1) && i < STONES ? steps[i] : NONE;
        }

        /** A set falls whole if neither it nor a smaller one of it is lawful; those that don't are marked. */
        Fewest felling() {
            if (isDue(FELLING)) {
                findLawful();
                fellingFound.clear();
                marked.clear();
                int many = setsOf(core);
                int left = 0;
                for (int i = 0; i < many; i++) {
                    if (lawful.has(left) || marked.hasWithoutOne(left, left)) {
                        marked.add(left);
                    } else {
                        fellingFound.offer(core & ~left);
                    }
                    left = (left - core) & core;
                }
            }
            return fellingFound;
        }

        Fewest mending() {
            if (isDue(MENDING)) {
                mendingFound.clear();
                int many = 1 << Math.min(SPARES, wall.spares);
                for (int i = 0; i < many; i++) {
                    if (frame.isLawful(wall.there | i << STONES)) {
                        mendingFound.offer(i);
                    }
                }
            }
            return mendingFound;
        }

        /** Marks the sets in which who is to take wins. */
        void play() {
            if (!isDue(GAME)) {
                return;
            }
            findLawful();
            marked.clear();
            int many = setsOf(core);
            int set = 0;
            for (int i = 0; i < many; i++) {
                if (winningIn(set) != NONE) {
                    marked.add(set);
                }
                set = (set - core) & core;
            }
            winningStone = winningIn(wall.there);
            stonesToTake = 0;
            for (int i = 0; i < STONES; i++) {
                int bit = 1 << i & wall.there;
                if (bit != 0 && lawful.has(wall.there & ~bit)) {
                    stonesToTake++;
                }
            }
        }

        private int winningIn(int set) {
            for (int i = 0; i < STONES; i++) {
                int bit = 1 << i & set;
                if (bit != 0 && lawful.has(set & ~bit) && !marked.has(set & ~bit)) {
                    return i;
                }
            }
            return NONE;
        }
    }

    /** The latest winters. */
    private static final class Seasons {
        static final int MOST = 40;
        static final int MOST_SEED = 1000000;

        final int[] left = new int[MOST];
        int many;
        int seed;

        int pass(Wall wall, Frame frame, int firstSeed, int winters) {
            seed = firstSeed;
            many = Math.min(MOST, winters);
            int set = wall.there;
            for (int i = 0; i < many; i++) {
                set = frame.settled(set & ~frozen(wall, set));
                set |= toPutBack(frame, set, wall.allStones() & ~set);
                left[i] = set;
            }
            return Integer.bitCount(set);
        }

        int leftBehind(int i) {
            return isWithin(i, 0, many - 1) && i < MOST ? left[i] : NONE;
        }

        private int frozen(Wall wall, int set) {
            int found = 0;
            for (int i = 0; i < STONES; i++) {
                if ((set >> i & 1) != 0 && draw(100) < wall.fact(i, FROST)) {
                    found |= 1 << i;
                }
            }
            return found;
        }

        private int draw(int n) {
            seed = (int) ((seed * 1103L + 12345L) % 1000003L);
            return n > 0 ? seed % n : 0;
        }

        /** The bit of the stone that goes back, or 0 if none is away. */
        private static int toPutBack(Frame frame, int set, int away) {
            int best = 0;
            int fewest = PLACES + 1;
            for (int i = 0; i < STONES; i++) {
                int bit = 1 << i & away;
                int falling = Integer.bitCount(frame.unsteady(set | bit));
                if (bit != 0 && falling < fewest) {
                    fewest = falling;
                    best = bit;
                }
            }
            return best;
        }
    }
}
