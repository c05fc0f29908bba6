import java.lang.reflect.InvocationTargetException;
import java.lang.reflect.Method;
import java.util.ArrayList;
import java.util.List;
import java.util.Random;

/** Promises 1 to 36: runs of calls by chance (always the same ones), on the class and on PlainWall. */
public final class ModelTest {
    private static final int RUNS = Integer.getInteger("runs", 240);
    /** A text takes 23 calls at most, and an object has 512. */
    private static final int CALLS = 480;
    private static final String[] CHEAP = {
        "stone", "stone", "stone", "stone", "spare", "spare", "put", "put", "put", "of", "terms", "terms", "row",
        "rubble", "law", "law", "fault", "force", "force", "force", "at", "touches", "touches", "touches",
        "unlawful", "there", "stand", "stand", "falls", "falls", "falls", "round", "round", "take", "farm",
        "gate", "gate", "mend", "night", "night", "winters", "winters", "winter", "winter", "image", "back",
        "count", "count", "status", "feed", "end"};
    private static final String[] DEAR = {"once", "oneByOne", "order", "fell", "game"};

    private final Check check = new Check("ModelTest");
    private final Random random;
    private final FiveTouch real = new FiveTouch();
    private final PlainWall plain = new PlainWall();
    private final List<String> calls = new ArrayList<>();
    private final boolean isTame;

    private ModelTest(long seed) {
        random = new Random(seed);
        isTame = random.nextInt(4) != 0;
    }

    public static void main(String[] args) throws ReflectiveOperationException {
        int wrong = 0;
        int asked = 0;
        for (int run = 0; run < RUNS; run++) {
            ModelTest test = new ModelTest(7000 + run);
            test.play();
            asked += test.calls.size();
            if (test.check.wrongSoFar() != 0) {
                wrong++;
                System.out.println("run " + run + ": " + test.calls);
                break;
            }
        }
        System.out.println("ModelTest: " + RUNS + " runs, " + asked + " calls, " + wrong + " wrong");
        if (wrong != 0) {
            System.exit(1);
        }
    }

    private int below(int n) {
        return random.nextInt(n);
    }

    private boolean isRare() {
        return below(12) == 0;
    }

    private void play() throws ReflectiveOperationException {
        if (isTame) {
            buildBricks();
        }
        while (calls.size() < CALLS && check.wrongSoFar() == 0) {
            String name = below(9) == 0 ? DEAR[below(DEAR.length)] : CHEAP[below(CHEAP.length)];
            if (isTame && (name.equals("row") || name.equals("take")) && below(3) != 0) {
                continue;
            }
            if (name.equals("law") && below(8) != 0) {
                feedText(new LawMaker(random).text());
            }
            if (name.equals("row") && below(8) != 0) {
                feedText(rowText());
            }
            call(name, arguments(name));
        }
    }

    /** Courses of stones, so that walls that stand come about. */
    private void buildBricks() throws ReflectiveOperationException {
        int many = 4 + below(11);
        int x = below(4);
        int y = 0;
        call("terms", 0, below(5));
        for (int i = 0; i < many; i++) {
            int wide = 1 + below(3);
            if (x + wide > 5 + below(7)) {
                x = below(3);
                y++;
            }
            int tall = isRare() ? 2 : 1;
            call(below(5) == 0 ? "spare" : "stone", x, y, wide, tall, 1 + below(isRare() ? 99 : 4));
            x += wide;
        }
    }

    private String rowText() {
        StringBuilder text = new StringBuilder();
        int many = below(12) + (isRare() ? 40 : 0);
        for (int i = 0; i < many; i++) {
            text.append((char) below(13)).append((char) below(isRare() ? 9 : 5)).append((char) (1 + below(3)));
            text.append((char) (below(isRare() ? 8 : 2) + (isRare() ? 0 : 1))).append((char) below(isRare() ? 256 : 9));
        }
        for (int i = below(5); i > 0 && below(3) == 0; i--) {
            text.append((char) below(256));
        }
        return text.toString();
    }

    private void feedText(String text) throws ReflectiveOperationException {
        call("end", 0);
        String fitting = text.length() > 400 ? text.substring(0, 400) : text;
        for (int i = 0; i < fitting.length(); i += 20) {
            call("feed", Check.four(fitting, i), Check.four(fitting, i + 4), Check.four(fitting, i + 8),
                Check.four(fitting, i + 12), Check.four(fitting, i + 16));
        }
        call("end", fitting.length());
    }

    private int[] arguments(String name) {
        switch (name) {
            case "stone":
            case "spare":
                return new int[] {odd(below(12)), odd(below(isRare() ? 8 : 4)), odd(1 + below(3)),
                    odd(1 + below(2)), odd(1 + below(isRare() ? 99 : 4))};
            case "put":
                int what = odd(below(3));
                int value = what == 0 ? 1 + below(99) : what == 1 ? below(4) : below(101);
                return new int[] {odd(below(14)), what, odd(value)};
            case "of":
                return new int[] {odd(below(14)), odd(below(8))};
            case "terms":
                return new int[] {odd(below(3)), odd(below(isRare() ? 13 : 4))};
            case "feed":
                return random.ints(5).toArray();
            case "end":
                return new int[] {odd(below(60))};
            case "force":
                return new int[] {odd(below(4) == 0 ? -1 : below(Math.max(1, real.count(3))))};
            case "at":
                return new int[] {odd(below(12)), odd(below(4))};
            case "touches":
                return new int[] {odd(below(14)), odd(below(4))};
            case "stand":
                int most = upTo() & ~(isRare() ? random.nextInt() : 1 << below(20));
                return new int[] {odd(isRare() ? below(1 << 14) : most)};
            case "falls":
            case "night":
                boolean night = name.equals("night");
                return new int[] {odd(night ? likelyNight() : some()), odd(below(4))};
            case "round":
                return new int[] {odd(some()), odd(below(14))};
            case "take":
                return new int[] {odd(isRare() ? some() : 0)};
            case "farm":
                return new int[] {odd(some()), odd(below(4))};
            case "once":
            case "oneByOne":
                return new int[] {odd(below(4))};
            case "order":
                return new int[] {odd(below(8))};
            case "fell":
            case "mend":
            case "game":
                return new int[] {odd(below(3))};
            case "gate":
                int x = below(12);
                int y = below(5);
                int u = Math.min(11, x + below(4));
                int v = Math.min(7, y + below(3));
                return new int[] {odd(x), odd(y), odd(u), odd(v), odd(below(3))};
            case "winters":
                return new int[] {odd(below(1000001)), odd(1 + below(40))};
            case "winter":
                return new int[] {odd(below(40))};
            case "image":
            case "back":
                return new int[] {odd(below(2))};
            case "count":
                return new int[] {odd(below(14))};
            default:
                return new int[0];
        }
    }

    /** Now and then another number than the one that was meant. */
    private int odd(int value) {
        int chance = below(300);
        if (chance == 0) {
            return random.nextInt();
        }
        if (chance == 1) {
            return random.nextBoolean() ? Integer.MIN_VALUE : Integer.MAX_VALUE;
        }
        return chance < 5 ? value + below(5) - 2 : chance < 7 ? -1 : value;
    }

    private int upTo() {
        return (1 << real.count(0)) - 1;
    }

    private int some() {
        int bits = real.there();
        for (int i = 1 + below(3); i > 0; i--) {
            bits &= random.nextInt();
        }
        return isRare() ? bits | 1 << below(15) : bits;
    }

    private int likelyNight() {
        int there = real.there();
        int taken = there & (1 << below(14) | (random.nextBoolean() ? 1 << below(14) : 0));
        return isRare() ? some() : Math.max(0, real.falls(taken, 2));
    }

    private void call(String name, int... args) throws ReflectiveOperationException {
        StringBuilder told = new StringBuilder(name).append('(');
        for (int i = 0; i < args.length; i++) {
            told.append(i == 0 ? "" : ", ").append(args[i]);
        }
        told.append(')');
        int want = invoke(plain, name, args);
        int got = invoke(real, name, args);
        calls.add(told + " = " + got);
        check.due(told.toString(), got, want);
    }

    private static int invoke(Object object, String name, int[] args) throws ReflectiveOperationException {
        Class<?>[] types = new Class<?>[args.length];
        Object[] values = new Object[args.length];
        for (int i = 0; i < args.length; i++) {
            types[i] = int.class;
            values[i] = args[i];
        }
        Method method = object.getClass().getMethod(name, types);
        try {
            return (Integer) method.invoke(object, values);
        } catch (InvocationTargetException e) {
            throw new IllegalStateException(name + " threw", e.getCause());
        }
    }
}
