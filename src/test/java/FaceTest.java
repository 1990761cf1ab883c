import java.io.IOException;
import java.lang.reflect.Constructor;
import java.lang.reflect.Field;
import java.lang.reflect.Method;
import java.lang.reflect.Modifier;
import java.nio.file.Files;
import java.nio.file.Path;
import java.util.Arrays;
import java.util.List;
import java.util.Set;
import java.util.TreeSet;

/** The class has the document's face and no more, and keeps to what of LANGUAGE.md can be seen from outside. */
public final class FaceTest {
    private static final Check check = new Check();
    private static final String FACE = "int feed(int,int,int,int,int)|boolean end(int)|int net()|int fault()|int now(int)"
        + "|int arc(int,int)!|int degree(int,int)!|int kind()|int ends(int)|long trees(int)|int tree(int,int)!|long walks()"
        + "|int walk(long)!|int walkAt(int)|int lasts()|long rank()|long by(int)|long first(int)|long drawn(int)|long words()"
        + "|long wordRank()|int word(long)!|int letterAt(int)|int braid(int,int)|int again()|int lack()|int righted(int)"
        + "|int add(int,int)|int drop(int)|int turn(int)|int deeds(int,int)|int undo()|boolean image(int)|boolean restore(int)";

    public static void main(String[] args) throws IOException {
        face();
        nested();
        source();
        room();
        check.close();
    }

    private static void face() {
        check.part("face");
        Set<String> due = new TreeSet<>(Arrays.asList(FACE.split("\\|")));
        Set<String> got = new TreeSet<>();
        Set<String> names = new TreeSet<>();
        for (Method method : RoundWalks.class.getDeclaredMethods()) {
            if (Modifier.isPublic(method.getModifiers())) {
                got.add(signature(method));
                names.add(method.getName());
            } else {
                check.due(method + " is private", Modifier.isPrivate(method.getModifiers()), true);
            }
        }
        if (!got.equals(due)) {
            System.out.println("face is " + got + ", due is " + due);
        }
        check.due("face", got.equals(due), true);
        check.due("final", Modifier.isFinal(RoundWalks.class.getModifiers()), true);
        Constructor<?>[] makers = RoundWalks.class.getDeclaredConstructors();
        check.due("constructors", makers.length, 1);
        check.due("public constructor", Modifier.isPublic(makers[0].getModifiers()), true);
        for (Field field : RoundWalks.class.getDeclaredFields()) {
            boolean isNone = field.getName().equals("NONE");
            check.due(field + " is private", Modifier.isPrivate(field.getModifiers()), !isNone);
            if (Modifier.isStatic(field.getModifiers())) {
                check.due(field + " is final", Modifier.isFinal(field.getModifiers()), true);
            }
        }
        for (Class<?> inside : RoundWalks.class.getDeclaredClasses()) {
            for (Method method : inside.getDeclaredMethods()) {
                check.due(method + " has a name of its own", names.contains(method.getName()), false);
            }
        }
    }

    private static String signature(Method method) {
        StringBuilder text = new StringBuilder();
        text.append(method.getReturnType().getName()).append(' ').append(method.getName()).append('(');
        for (int i = 0; i < method.getParameterCount(); i++) {
            text.append(i == 0 ? "" : ",").append(method.getParameterTypes()[i].getName());
        }
        return text.append(')').append(method.getExceptionTypes().length == 1 ? "!" : "").toString();
    }

    private static void nested() {
        check.part("classes inside");
        Class<?>[] inside = RoundWalks.class.getDeclaredClasses();
        check.due("at most twelve classes", inside.length + 1 <= 12, true);
        for (Class<?> one : inside) {
            check.due(one + " is static", Modifier.isStatic(one.getModifiers()), true);
            check.due(one + " is not public", Modifier.isPublic(one.getModifiers()), false);
            int fields = 0;
            for (Field field : one.getDeclaredFields()) {
                if (!Modifier.isStatic(field.getModifiers())) {
                    fields++;
                } else {
                    check.due(field + " is final", Modifier.isFinal(field.getModifiers()), true);
                }
            }
            check.due(one + " has few fields", fields <= 20, true);
            for (Method method : one.getDeclaredMethods()) {
                check.due(method + " takes few", method.getParameterCount() <= 7, true);
            }
        }
    }

    private static void source() throws IOException {
        check.part("source");
        List<String> lines = Files.readAllLines(Path.of("src/main/java/RoundWalks.java"));
        String[] refused = {"catch", "finally", "->", "::", "Exact", "synchronized", "assert", "package ", "System.out", "instanceof"};
        int begin = -1;
        for (int i = 0; i < lines.size(); i++) {
            String line = lines.get(i);
            for (String word : refused) {
                check.due("line " + (i + 1) + " has " + word, line.contains(word), false);
            }
            if (line.startsWith("import")) {
                check.due(line, line.equals("import java.util.NoSuchElementException;"), true);
            }
            if (line.matches("\\s+(public|private|static|final|int|long|boolean|void|[A-Z]\\w+)[^=;]*\\) ?(throws \\w+ )?\\{")) {
                begin = i;
            }
            if (line.matches(" {4}( {4})?\\}") && begin >= 0) {
                check.due("method of line " + (begin + 1) + " is short", i - begin <= 60, true);
                begin = -1;
            }
        }
    }

    /** Calls make nothing that stays behind: all calls of a run live in one room. */
    private static void room() {
        check.part("room");
        var bean = (com.sun.management.ThreadMXBean) java.lang.management.ManagementFactory.getThreadMXBean();
        long id = Thread.currentThread().getId();
        long sum = runOfCalls(new RoundWalks());
        long before = bean.getThreadAllocatedBytes(id);
        RoundWalks x = new RoundWalks();
        long made = bean.getThreadAllocatedBytes(id);
        sum -= runOfCalls(x);
        long after = bean.getThreadAllocatedBytes(id);
        check.due("the same answers", sum, 0);
        check.due("a new object takes little: " + (made - before), made - before < 40000, true);
        check.due("calls take little: " + (after - made), after - made < 40000, true);
    }

    private static long runOfCalls(RoundWalks x) {
        long sum = 0;
        for (int i = 0; i < 20; i++) {
            sum = sum * 3 + x.feed(0x61626162, 0x61620000, 0, 0, 0);
            x.end(6);
            sum = sum * 3 + x.words() + x.wordRank() + x.word(0) + x.letterAt(1);
            sum = sum * 3 + x.braid(2, 4) + x.walks() + x.walk(3) + x.drawn(i) + x.lasts() + x.by(x.lasts()) + x.first(x.lasts());
            sum = sum * 3 + x.trees(3) + x.tree(3, 5) + x.again() + x.lack() + x.righted(1);
            sum = sum * 3 + x.drop(1) + x.turn(2) + x.again() + x.righted(0) + x.deeds(9, i) + x.add(0, 1) + x.undo();
            sum = sum * 3 + (x.image(0) ? 1 : 0) + (x.restore(0) ? 1 : 0) + x.rank() + x.net();
        }
        return sum;
    }
}
