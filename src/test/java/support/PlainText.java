import java.math.BigInteger;
import java.util.ArrayDeque;
import java.util.ArrayList;
import java.util.Arrays;
import java.util.Deque;
import java.util.List;
import java.util.Map;

/** A law's text, read by a machine with a stack of what stands open, and asked by cutting it apart. */
final class PlainText {
    private static final List<String> WORDS =
        Arrays.asList("stone", "x", "y", "wide", "tall", "weight", "farm", "frost");

    /** What the machine waits for, or has just behind it. */
    private enum At { CLAUSE, BEHIND_BOUND, PLAIN, PART, BEHIND_PART, BEHIND_TEST }

    private final List<String> tokens = new ArrayList<>();
    private final List<Integer> places = new ArrayList<>();
    private final int length;

    PlainText(String text) {
        length = text.length();
        java.util.regex.Matcher m = java.util.regex.Pattern
            .compile("[a-z]+|[0-9]+|[^ ]", java.util.regex.Pattern.DOTALL).matcher(text);
        while (m.find()) {
            tokens.add(m.group());
            places.add(m.start());
        }
    }

    List<String> tokens() {
        return tokens;
    }

    // What stands open: N a sum that is needed, L and R the sums ahead of and behind a sign, the brackets.
    private final Deque<String> open = new ArrayDeque<>();
    private At at = At.CLAUSE;
    private int parts;
    private int clauses;

    /** Where the text can't go on, or -1. */
    int fault() {
        open.clear();
        at = At.CLAUSE;
        parts = 0;
        clauses = 0;
        for (int i = 0; i < tokens.size(); i++) {
            if (!goOn(tokens.get(i))) {
                return places.get(i);
            }
        }
        return canEnd() ? -1 : length;
    }

    private boolean canEnd() {
        boolean nothingOpen = !open.contains("(") && !open.contains("[");
        return nothingOpen && (at == At.BEHIND_BOUND || at == At.BEHIND_TEST
            || at == At.BEHIND_PART && !"L".equals(open.peek()));
    }

    private long brackets() {
        return open.stream().filter(s -> s.equals("(") || s.equals("[")).count();
    }

    private boolean become(At next) {
        at = next;
        return true;
    }

    private boolean goOn(String token) {
        if (token.equals(";") && at != At.CLAUSE) {
            if (!canEnd()) {
                return false;
            }
            open.clear();
            return become(At.CLAUSE);
        }
        switch (at) {
            case CLAUSE:
                clauses++;
                if (clauses == 13) {
                    return false;
                }
                if (token.equals("needs")) {
                    open.push("N");
                    return become(At.PART);
                }
                return token.equals("bound") && become(At.BEHIND_BOUND);
            case BEHIND_BOUND:
                return token.equals("if") && become(At.PLAIN);
            case PLAIN:
                if (token.equals("not")) {
                    return true;
                }
                if (token.equals("(")) {
                    open.push("(");
                    return brackets() <= 8;
                }
                open.push("L");
                at = At.PART;
                return part(token);
            case PART:
                return part(token);
            case BEHIND_PART:
                return behindPart(token);
            default:
                return behindTest(token);
        }
    }

    private boolean part(String token) {
        if (token.equals("[")) {
            open.push("[");
            return brackets() <= 8;
        }
        boolean number = token.matches("[0-9]+") && new BigInteger(token).compareTo(BigInteger.valueOf(1000)) <= 0;
        parts++;
        return (number || WORDS.contains(token)) && parts <= 50 && become(At.BEHIND_PART);
    }

    private boolean behindPart(String token) {
        String top = open.peek();
        if ("+-*/".contains(token)) {
            return become(At.PART);
        }
        if (token.equals("]") && "[".equals(top)) {
            open.pop();
            return true;
        }
        if ("<>=".contains(token) && "L".equals(top)) {
            open.pop();
            open.push("R");
            return become(At.PART);
        }
        if (token.equals("if") && "N".equals(top)) {
            open.pop();
            return become(At.PLAIN);
        }
        if ("R".equals(top)) {
            open.pop();
            return behindTest(token);
        }
        return false;
    }

    private boolean behindTest(String token) {
        if (token.equals("and") || token.equals("or")) {
            return become(At.PLAIN);
        }
        if (token.equals(")") && "(".equals(open.peek())) {
            open.pop();
            return become(At.BEHIND_TEST);
        }
        return false;
    }

    // ---- asking ----

    static final class Told {
        int need;
        boolean bound;
    }

    private static final class Broken extends Exception {
        private static final long serialVersionUID = 1L;
    }

    static Told ask(List<String> law, Map<String, Integer> words, int without) {
        Told told = new Told();
        told.need = without;
        for (List<String> clause : cut(law, ";")) {
            try {
                List<List<String>> halves = cut(clause, "if");
                boolean so = halves.size() == 1 || test(halves.get(1), words);
                List<String> first = halves.get(0);
                if (first.get(0).equals("bound")) {
                    told.bound = told.bound || so;
                } else {
                    int need = sum(first.subList(1, first.size()), words).max(BigInteger.ZERO)
                        .min(BigInteger.valueOf(12)).intValue();
                    told.need = so ? need : told.need;
                }
            } catch (Broken broken) {
                continue;
            }
        }
        return told;
    }

    /** The pieces between a token where no bracket stands open. */
    private static List<List<String>> cut(List<String> row, String token) {
        List<List<String>> pieces = new ArrayList<>();
        pieces.add(new ArrayList<>());
        int depth = 0;
        for (String t : row) {
            depth += t.equals("(") || t.equals("[") ? 1 : t.equals(")") || t.equals("]") ? -1 : 0;
            if (depth == 0 && t.equals(token)) {
                pieces.add(new ArrayList<>());
            } else {
                pieces.get(pieces.size() - 1).add(t);
            }
        }
        return pieces;
    }

    private static boolean test(List<String> row, Map<String, Integer> words) throws Broken {
        for (List<String> both : cut(row, "or")) {
            boolean all = true;
            for (List<String> plain : cut(both, "and")) {
                all = all && plain(plain, words);
            }
            if (all) {
                return true;
            }
        }
        return false;
    }

    private static boolean plain(List<String> row, Map<String, Integer> words) throws Broken {
        if (row.get(0).equals("not")) {
            return !plain(row.subList(1, row.size()), words);
        }
        if (row.get(0).equals("(")) {
            return test(row.subList(1, row.size() - 1), words);
        }
        for (String sign : new String[] {"<", ">", "="}) {
            List<List<String>> sides = cut(row, sign);
            if (sides.size() == 2) {
                int order = sum(sides.get(0), words).compareTo(sum(sides.get(1), words));
                return sign.equals("<") ? order < 0 : sign.equals(">") ? order > 0 : order == 0;
            }
        }
        throw new IllegalStateException("no sign in " + row);
    }

    private static BigInteger sum(List<String> row, Map<String, Integer> words) throws Broken {
        int last = lastOf(row, "+", "-");
        if (last < 0) {
            last = lastOf(row, "*", "/");
        }
        if (last >= 0) {
            BigInteger a = sum(row.subList(0, last), words);
            BigInteger b = sum(row.subList(last + 1, row.size()), words);
            return near(joined(row.get(last), a, b));
        }
        if (row.get(0).equals("[")) {
            return sum(row.subList(1, row.size() - 1), words);
        }
        Integer word = words.get(row.get(0));
        return word != null ? BigInteger.valueOf(word) : new BigInteger(row.get(0));
    }

    private static BigInteger joined(String sign, BigInteger a, BigInteger b) throws Broken {
        switch (sign) {
            case "+":
                return a.add(b);
            case "-":
                return a.subtract(b);
            case "*":
                return a.multiply(b);
            default:
                if (b.signum() == 0) {
                    throw new Broken();
                }
                return a.divide(b);
        }
    }

    private static BigInteger near(BigInteger value) throws Broken {
        if (value.abs().compareTo(BigInteger.valueOf(1000000000)) > 0) {
            throw new Broken();
        }
        return value;
    }

    private static int lastOf(List<String> row, String one, String other) {
        int depth = 0;
        int last = -1;
        for (int i = 0; i < row.size(); i++) {
            String t = row.get(i);
            depth += t.equals("(") || t.equals("[") ? 1 : t.equals(")") || t.equals("]") ? -1 : 0;
            if (depth == 0 && (t.equals(one) || t.equals(other))) {
                last = i;
            }
        }
        return last;
    }
}
