import java.io.IOException;
import java.nio.file.Files;
import java.nio.file.Path;
import java.util.ArrayList;
import java.util.List;
import java.util.Set;
import java.util.TreeSet;
import java.util.regex.Matcher;
import java.util.regex.Pattern;

/**
 * Sentences of the document that name a boundary, each with the calls that lead to it and to its neighbours.
 *
 * <p>A run is written as calls on a new object, a line each or several with " | " between them:
 * "stone(0, 0, 1, 1, 1) = 0". Behind " // " a line says why. Numbers may be binary (0b101), MIN and MAX.
 * fed{text} lays a text on the tape, law{text} makes a law of it, %0a stands for the byte 10.
 */
final class Edges {
    private static final Pattern CALL = Pattern.compile("(\\w+)\\((.*)\\) = (\\S+)");
    private static final Pattern TEXT = Pattern.compile("(fed|law)\\{(.*)\\} = (\\S+)", Pattern.DOTALL);
    private static final Path DOCUMENT = Path.of("../shared/DOC.md");

    private final Check check = new Check("EdgesTest");
    private final Calls calls = new Calls();
    private final Set<Integer> promises = new TreeSet<>();
    private final List<String> sentences = new ArrayList<>();
    private int runs;

    /** A sentence in the document's own words, and a run that would go otherwise if it were broken. */
    void on(int promise, String sentence, String... run) {
        promises.add(promise);
        sentences.add(sentence);
        runs++;
        FiveTouch x = new FiveTouch();
        for (String lines : run) {
            for (String line : lines.split("\n")) {
                String told = line.replaceAll("(^| +)// .*", "").trim();
                for (String call : told.split(" \\| ")) {
                    if (!call.isEmpty()) {
                        due(promise, sentence, x, call.trim());
                    }
                }
            }
        }
    }

    /** The same run once for each name, which takes the place of NEW in it. */
    void onBoth(String sentence, String run) {
        on(2, sentence, run.replace("NEW(", "stone("));
        on(3, sentence, run.replace("NEW(", "spare("));
    }

    /** What a stone needs by texts: 1 at 3, 2, 4 wide, 5 tall, 6 heavy, of farm 1, with frost 9; NEED is 5. */
    void needs(String sentence, Object... textsAndNeeds) {
        for (int i = 0; i + 1 < textsAndNeeds.length; i += 2) {
            on(15, sentence, "stone(0, 0, 1, 1, 1) = 0 | stone(3, 2, 4, 5, 6) = 1 | put(1, 1, 1) = 0",
                "put(1, 2, 9) = 0",
                "law{" + textsAndNeeds[i] + "} = 0", "force(0) = -1 | touches(1, 0) = " + textsAndNeeds[i + 1]);
        }
    }

    /** Texts that can't be, and where they can't go on. */
    void faults(int promise, String sentence, Object... textsAndPlaces) {
        for (int i = 0; i + 1 < textsAndPlaces.length; i += 2) {
            on(promise, sentence, "law{" + textsAndPlaces[i] + "} = -6", "fault() = " + textsAndPlaces[i + 1],
                "status() = -6 | count(3) = 0 | count(4) = 0");
        }
    }

    /** Texts that can be. */
    void texts(int promise, String sentence, String... texts) {
        for (String text : texts) {
            on(promise, sentence, "law{" + text + "} = 0", "fault() = -1 | status() = 0 | count(3) = 1 | count(4) = 0");
        }
    }

    private void due(int promise, String sentence, FiveTouch x, String call) {
        String told = "promise " + promise + ", '" + sentence + "': " + call;
        Matcher text = TEXT.matcher(call);
        Matcher plain = CALL.matcher(call);
        if (text.matches()) {
            Check.feed(x, bytes(text.group(2)));
            check.due(told, text.group(1).equals("law") ? x.law() : x.count(4), Calls.number(text.group(3)));
        } else if (plain.matches()) {
            check.due(told, calls.answer(x, plain.group(1), plain.group(2)), Calls.number(plain.group(3)));
        } else {
            throw new IllegalStateException("not a call: " + told);
        }
    }

    private static String bytes(String text) {
        Matcher m = Pattern.compile("%([0-9a-f]{2})").matcher(text);
        StringBuilder plain = new StringBuilder();
        while (m.find()) {
            String sign = String.valueOf((char) Integer.parseInt(m.group(1), 16));
            m.appendReplacement(plain, Matcher.quoteReplacement(sign));
        }
        return m.appendTail(plain).toString();
    }

    /** Fails if a promise has no edge here. */
    void close() throws IOException {
        for (int promise = 1; promise <= 36; promise++) {
            check.isSo("promise " + promise + " has an edge", promises.contains(promise));
        }
        if (Files.exists(DOCUMENT)) {
            compareWords(plainWords(Files.readString(DOCUMENT)));
        }
        System.out.println("EdgesTest: " + runs + " runs on " + new TreeSet<>(sentences).size() + " sentences");
        check.close();
    }

    /**
     * Says which sentences the document does not have in these words; with -Dunquoted=true also what of the
     * document no run here quotes.
     */
    private void compareWords(String document) {
        String left = document;
        for (String sentence : new TreeSet<>(sentences)) {
            String words = plainWords(sentence);
            if (!document.contains(words)) {
                System.out.println("not in the document's words: " + sentence);
            }
            for (int at = document.indexOf(words); at >= 0; at = document.indexOf(words, at + 1)) {
                left = left.substring(0, at) + "\0".repeat(words.length()) + left.substring(at + words.length());
            }
        }
        if (Boolean.getBoolean("unquoted")) {
            System.out.println(left.replaceAll("\0+", "\n").replaceAll("\n[^A-Za-z0-9]+(?=\n)", ""));
        }
    }

    private static String plainWords(String text) {
        return text.replace("&lt;", "<").replace("&gt;", ">").replaceAll("\\s+", " ").trim();
    }
}
