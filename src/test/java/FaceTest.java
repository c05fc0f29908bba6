import java.io.IOException;
import java.lang.reflect.Constructor;
import java.lang.reflect.Field;
import java.lang.reflect.Method;
import java.lang.reflect.Modifier;
import java.nio.file.Files;
import java.nio.file.Path;
import java.util.ArrayList;
import java.util.Arrays;
import java.util.List;
import java.util.Set;
import java.util.TreeSet;
import java.util.regex.Matcher;
import java.util.regex.Pattern;

/** The public face, and those rules of LANGUAGE.md that can be seen in the class and its text. */
public final class FaceTest {
    private static final Check CHECK = new Check("FaceTest");
    private static final String[] FACE = {
        "stone/5", "spare/5", "put/3", "of/2", "terms/2", "feed/5", "end/1", "row/0", "rubble/0", "law/0", "fault/0",
        "force/1", "at/2", "touches/2", "unlawful/0", "there/0", "stand/1", "falls/2", "round/2", "take/1", "farm/2",
        "once/1", "oneByOne/1", "order/1", "fell/1", "gate/5", "mend/1", "game/1", "night/2", "winters/2", "winter/1",
        "image/1", "back/1", "count/1", "status/0"};
    private static final String[] BARRED = {
        "throw", "throws", "try", "catch", "finally", "synchronized", "assert", "import", "package", "native",
        "volatile", "transient", "Object", "Exception", "System", "Thread", "hashCode", "double", "float"};

    public static void main(String[] args) throws IOException {
        testFace();
        testClasses();
        testText(Files.readString(Path.of("src/main/java/FiveTouch.java")));
        CHECK.close();
    }

    private static void testFace() {
        Class<?> face = FiveTouch.class;
        CHECK.due("public and final", face.getModifiers() & (Modifier.PUBLIC | Modifier.FINAL),
            Modifier.PUBLIC | Modifier.FINAL);
        Set<String> due = new TreeSet<>(Arrays.asList(FACE));
        Set<String> got = new TreeSet<>();
        Set<String> publicNames = new TreeSet<>();
        for (Method m : face.getDeclaredMethods()) {
            if (!Modifier.isPrivate(m.getModifiers())) {
                got.add(m.getName() + "/" + m.getParameterCount());
                publicNames.add(m.getName());
                CHECK.isSo(m + " answers int", m.getReturnType() == int.class && Modifier.isPublic(m.getModifiers()));
            }
        }
        CHECK.isSo("face " + got, got.equals(due));
        for (Constructor<?> c : face.getDeclaredConstructors()) {
            CHECK.isSo(c + " is the one", c.getParameterCount() == 0 && Modifier.isPublic(c.getModifiers()));
        }
        for (Field f : face.getDeclaredFields()) {
            CHECK.isSo(f + " is private", f.getName().equals("NONE") || Modifier.isPrivate(f.getModifiers()));
        }
        CHECK.due("NONE", FiveTouch.NONE, -1);
        for (Class<?> c : allClasses()) {
            for (Method m : c.getDeclaredMethods()) {
                CHECK.isSo(m + " has no name of the face", c == face && Modifier.isPublic(m.getModifiers())
                    || !publicNames.contains(m.getName()));
            }
        }
    }

    private static List<Class<?>> allClasses() {
        List<Class<?>> all = new ArrayList<>(Arrays.asList(FiveTouch.class.getDeclaredClasses()));
        all.add(FiveTouch.class);
        return all;
    }

    private static void testClasses() {
        CHECK.isSo("a dozen classes at most", allClasses().size() <= 12);
        for (Class<?> c : allClasses()) {
            CHECK.isSo(c + " is static", c == FiveTouch.class || Modifier.isStatic(c.getModifiers()));
            int fields = 0;
            for (Field f : c.getDeclaredFields()) {
                boolean constant = Modifier.isStatic(f.getModifiers());
                CHECK.isSo(f + " is a constant", !constant
                    || Modifier.isFinal(f.getModifiers()) && f.getType().isPrimitive());
                fields += constant ? 0 : 1;
            }
            CHECK.isSo(c + " has twenty fields at most", fields <= 20);
            for (Method m : c.getDeclaredMethods()) {
                CHECK.isSo(m + " takes seven at most", m.getParameterCount() <= 7);
            }
        }
    }

    private static void testText(String text) {
        String code = text.replaceAll("(?s)/\\*.*?\\*/", "").replaceAll("//[^\n]*", "")
            .replaceAll("\"[^\"\n]*\"", "\"\"");
        for (String word : BARRED) {
            CHECK.isSo("'" + word + "' is not there", !Pattern.compile("\\b" + word + "\\b").matcher(code).find());
        }
        CHECK.isSo("no lambda, no method reference", !code.contains("->") && !code.contains("::"));
        CHECK.isSo("plain signs alone", text.chars().allMatch(c -> c == 10 || c >= 32 && c < 127));
        String[] lines = text.split("\n");
        Pattern start = Pattern.compile("^( {4}| {8})\\w[^=;]*\\(.*\\{$");
        for (int i = 0; i < lines.length; i++) {
            Matcher m = start.matcher(lines[i]);
            if (m.find()) {
                int end = i;
                while (end < lines.length && !lines[end].equals(m.group(1) + "}")) {
                    end++;
                }
                CHECK.isSo(lines[i].trim() + " is short", end - i < 60);
            }
        }
    }
}
