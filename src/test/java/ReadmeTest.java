import java.io.IOException;
import java.nio.file.Files;
import java.nio.file.Path;
import java.util.Collections;
import java.util.List;
import java.util.regex.Matcher;
import java.util.regex.Pattern;
import java.util.stream.Collectors;

/** README.md: its calls, made one after the other on one wall, answer what it tells; it names each call. */
public final class ReadmeTest {
    private static final Pattern BLOCK = Pattern.compile("(?s)```java\n(.*?)```");
    private static final Pattern CALL = Pattern.compile("wall\\.(\\w+)\\((.*)\\); +// (-?\\w+)(: .*)?");
    private static final Pattern FEED = Pattern.compile("feed\\(wall, \"(.*)\"\\);");
    private static final String HELPERS = "src/test/java/support/Check.java";

    private final Check check = new Check("ReadmeTest");
    private final Calls calls = new Calls();
    private FiveTouch wall = new FiveTouch();

    public static void main(String[] args) throws IOException {
        new ReadmeTest().play(Files.readString(Path.of("README.md")));
    }

    private void play(String page) throws IOException {
        Matcher block = BLOCK.matcher(page);
        while (block.find()) {
            if (block.group(1).startsWith("static ")) {
                compareHelpers(block.group(1));
            } else {
                block.group(1).lines().forEach(this::line);
            }
        }
        for (String name : calls.names()) {
            check.isSo(name + " stands among all calls", page.contains("`" + name + "`"));
            check.isSo(name + " has an example", page.contains("wall." + name + "("));
        }
        check.close();
    }

    private void line(String line) {
        Matcher call = CALL.matcher(line);
        Matcher feed = FEED.matcher(line);
        if (call.matches()) {
            check.due(line, calls.answer(wall, call.group(1), call.group(2)), Calls.number(call.group(3)));
        } else if (feed.matches()) {
            Check.feed(wall, feed.group(1));
        } else if (line.equals("FiveTouch wall = new FiveTouch();")) {
            wall = new FiveTouch();
        } else {
            check.isSo("understood: " + line, false);
        }
    }

    /** The page's helpers are those that the tests use, line for line. */
    private void compareHelpers(String code) throws IOException {
        List<String> own = plainLines(Files.readString(Path.of(HELPERS)));
        for (String method : code.split("\n\n")) {
            List<String> told = plainLines(method);
            check.isSo("as in " + HELPERS + ": " + told.get(0), Collections.indexOfSubList(own, told) >= 0);
        }
    }

    private static List<String> plainLines(String code) {
        return code.lines().map(String::trim).filter(s -> !s.isEmpty()).collect(Collectors.toList());
    }
}
