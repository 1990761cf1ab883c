import java.io.IOException;
import java.lang.reflect.Method;
import java.lang.reflect.Modifier;
import java.nio.file.Files;
import java.nio.file.Path;

/** What README.md shows is what the class does: its examples stand here line by line, with the answers it tells. */
public final class ReadmeTest {
    private static final Check check = new Check();

    public static void main(String[] args) throws IOException {
        String page = Files.readString(Path.of("README.md"));
        examplesAreThese(page);
        allCallsAreNamed(page);
        example();
        check.close();
    }

    static void put(RoundWalks x, String text) {
        int[] five = new int[5];
        for (int i = 0; i < text.length(); i += 20) {
            for (int j = 0; j < 20; j++) {
                int sign = i + j < text.length() ? text.charAt(i + j) : 0;
                five[j / 4] = five[j / 4] << 8 | sign;
            }
            x.feed(five[0], five[1], five[2], five[3], five[4]);
        }
        x.end(text.length());
    }

    private static void example() {
        check.part("example");
        RoundWalks x = new RoundWalks();
        put(x, "point a; point b; arc a b; arc b a; arc a b;");
        int rows = x.net();
        check.due("net", rows, 5);
        check.due("fault", x.fault(), 0);
        int kind = x.kind();
        check.due("kind", kind, 2);
        check.due("walks begin", x.ends(0), 0);
        check.due("walks end", x.ends(1), 1);
        long many = x.walks();
        check.due("walks", many, 2);
        int end = x.walk(1);
        check.due("walk", end, 0);
        int begin = x.walkAt(0);
        check.due("walkAt", begin, 2);
        int tree = x.lasts();
        check.due("lasts", tree, 1);
        long such = x.by(tree);
        check.due("by", such, 1);
        long first = x.first(tree);
        check.due("first", first, 1);
        int more = x.add(1, 0);
        check.due("add", more, 3);
        check.due("round now", x.kind(), 1);
        check.due("its walks", x.walks(), 2);
        long drawn = x.drawn(7);
        check.due("drawn", drawn == 0 || drawn == 1, true);
        int left = x.undo();
        check.due("undo", left, 0);
        check.due("the arc is gone", x.now(1), 3);
        check.due("nothing more can be undone", x.undo(), RoundWalks.NONE);
        put(x, "mississippi");
        long alike = x.words();
        check.due("words", alike, 9);
        long place = x.wordRank();
        check.due("wordRank", place, 6);
        int last = x.word(0);
        check.due("word", last, 'i');
        check.due("letterAt", x.letterAt(0), 'm');
    }

    private static void examplesAreThese(String page) throws IOException {
        check.part("examples of README.md");
        String here = Files.readString(Path.of("src/test/java/ReadmeTest.java"));
        boolean inside = false;
        int lines = 0;
        for (String line : page.split("\n")) {
            if (line.startsWith("```")) {
                inside = line.equals("```java");
            } else if (inside) {
                String code = line.replaceFirst("\\s+//.*", "").trim();
                check.due(code + " stands in ReadmeTest", here.contains("    " + code + "\n"), true);
                lines++;
            }
        }
        check.due("lines of examples", lines > 20, true);
    }

    private static void allCallsAreNamed(String page) {
        check.part("calls named in README.md");
        for (Method method : RoundWalks.class.getDeclaredMethods()) {
            if (Modifier.isPublic(method.getModifiers())) {
                check.due(method.getName(), page.contains("`" + method.getName() + "`"), true);
            }
        }
    }
}
