import java.util.ArrayList;
import java.util.List;
import java.util.Random;

/** Texts of laws by chance; some are spoilt, some reach beyond a limit. */
final class LawMaker {
    private static final String[] WORDS = {"stone", "x", "y", "wide", "tall", "weight", "farm", "frost"};
    private static final String[] OTHERS = {
        "needs", "bound", "if", "or", "and", "not", "stone", "x", "weight", "(", ")", "[", "]", "<", ">", "=",
        "+", "-", "*", "/", ";", "7", "1000", "1001", "0001000", "99999999999999999999", "need", "boundif", "ifx",
        "X", "!", "\u0000", "\u00e9", "\t"};

    private final Random random;
    private final List<String> row = new ArrayList<>();
    private final int richness;

    LawMaker(Random random) {
        this.random = random;
        richness = 1 + random.nextInt(4);
    }

    String text() {
        int kind = random.nextInt(12);
        if (kind == 0) {
            return nested();
        }
        if (kind == 1) {
            return many();
        }
        int clauses = 1 + random.nextInt(random.nextInt(8) == 0 ? 13 : 3);
        for (int i = 0; i < clauses; i++) {
            if (i > 0) {
                row.add(";");
            }
            clause();
        }
        if (random.nextInt(3) == 0) {
            spoil();
        }
        return joined();
    }

    private void clause() {
        if (random.nextInt(3) == 0) {
            row.add("bound");
        } else {
            row.add("needs");
            sum(2);
        }
        if (random.nextInt(4) != 0) {
            row.add("if");
            test(2);
        }
    }

    private void test(int depth) {
        plain(depth);
        while (random.nextInt(4) < richness - 1 && row.size() < 90) {
            row.add(random.nextBoolean() ? "or" : "and");
            plain(depth);
        }
    }

    private void plain(int depth) {
        while (random.nextInt(5) == 0) {
            row.add("not");
        }
        if (depth > 0 && random.nextInt(4) == 0) {
            row.add("(");
            test(depth - 1);
            row.add(")");
            return;
        }
        sum(depth);
        row.add("<>=".substring(random.nextInt(3)).substring(0, 1));
        sum(depth);
    }

    private void sum(int depth) {
        part(depth);
        while (random.nextInt(6) < richness && row.size() < 90) {
            row.add("+-*/*/".substring(random.nextInt(6)).substring(0, 1));
            part(depth);
        }
    }

    private void part(int depth) {
        int kind = random.nextInt(8);
        if (kind == 0 && depth > 0) {
            row.add("[");
            sum(depth - 1);
            row.add("]");
        } else if (kind < 4) {
            row.add(Integer.toString(random.nextInt(6) == 0 ? random.nextInt(1002) : random.nextInt(6)));
        } else {
            row.add(WORDS[random.nextInt(WORDS.length)]);
        }
    }

    private void spoil() {
        for (int i = 1 + random.nextInt(2); i > 0 && !row.isEmpty(); i--) {
            int at = random.nextInt(row.size());
            int kind = random.nextInt(4);
            if (kind == 0) {
                row.remove(at);
            } else if (kind == 1) {
                row.add(at, OTHERS[random.nextInt(OTHERS.length)]);
            } else if (kind == 2) {
                row.set(at, OTHERS[random.nextInt(OTHERS.length)]);
            } else {
                row.subList(at, row.size()).clear();
            }
        }
    }

    /** Seven to nine brackets of both kinds within one another. */
    private String nested() {
        int round = random.nextInt(8);
        int square = 7 + random.nextInt(3) - round;
        StringBuilder text = new StringBuilder("bound if ");
        text.append("(".repeat(round)).append("[".repeat(square)).append("1").append("]".repeat(square)).append("=x");
        return text.append(")".repeat(Math.max(0, round - random.nextInt(2)))).toString();
    }

    /** About fifty parts, about twelve clauses, or a long row of "not". */
    private String many() {
        int kind = random.nextInt(4);
        if (kind == 0) {
            return "needs 1" + "+1".repeat(48 + random.nextInt(3)) + (random.nextBoolean() ? " if x=1" : "");
        }
        if (kind == 1) {
            return "bound;".repeat(10 + random.nextInt(3)) + (random.nextBoolean() ? "bound" : "x");
        }
        if (kind == 2) {
            return "bound if " + "not ".repeat(90 + random.nextInt(7)) + "x=0";
        }
        return " ".repeat(random.nextInt(30)) + (random.nextBoolean() ? "bound" : "") + " ".repeat(random.nextInt(3));
    }

    private String joined() {
        StringBuilder text = new StringBuilder();
        boolean isTight = random.nextBoolean();
        for (String token : row) {
            boolean isWord = Character.isLetterOrDigit(token.charAt(0));
            if (!isTight || isWord && text.length() > 0 && Character.isLetterOrDigit(text.charAt(text.length() - 1))) {
                text.append(" ".repeat(random.nextInt(9) == 0 ? random.nextInt(3) : 1));
            }
            text.append(token);
        }
        return text.toString();
    }
}
