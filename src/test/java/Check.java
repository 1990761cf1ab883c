import java.util.NoSuchElementException;

/** Compares answers with those due, and counts. */
final class Check {
    interface Call {
        long go();
    }

    /** What a call answers that throws NoSuchElementException. */
    static final long THROWS = Long.MIN_VALUE + 7;

    private int wrong = 0;
    private int checks = 0;
    private String part = "";

    void part(String name) {
        part = name;
    }

    void due(String what, long got, long want) {
        checks++;
        if (got != want) {
            wrong++;
            if (wrong <= 40) {
                System.out.println(part + ": " + what + " answered " + told(got) + ", due is " + told(want));
            }
        }
    }

    void due(String what, boolean got, boolean want) {
        due(what, got ? 1 : 0, want ? 1 : 0);
    }

    void throwsNone(String what, Call call) {
        due(what, answer(call), THROWS);
    }

    static long answer(Call call) {
        try {
            return call.go();
        } catch (NoSuchElementException e) {
            return THROWS;
        }
    }

    static String told(long answer) {
        return answer == THROWS ? "throws.NoSuchElementException" : Long.toString(answer);
    }

    boolean failed() {
        return wrong > 0;
    }

    void close() {
        System.out.println(checks + " checks, " + wrong + " wrong");
        if (wrong > 0 || checks == 0) {
            System.exit(1);
        }
    }

    /** Puts a text behind the tape. */
    static void tape(RoundWalks x, String text) {
        byte[] bytes = bytes(text);
        int length = x.now(8) + text.length();
        for (int i = 0; i < text.length(); i += 20) {
            x.feed(number(bytes, i), number(bytes, i + 4), number(bytes, i + 8), number(bytes, i + 12), number(bytes, i + 16));
        }
        x.end(length);
    }

    static byte[] bytes(String text) {
        byte[] bytes = new byte[text.length() + 20];
        for (int i = 0; i < text.length(); i++) {
            bytes[i] = (byte) text.charAt(i);
        }
        return bytes;
    }

    static int number(byte[] bytes, int at) {
        int number = 0;
        for (int i = at; i < at + 4; i++) {
            number = number << 8 | (i < bytes.length ? bytes[i] & 255 : 0);
        }
        return number;
    }

    static int net(RoundWalks x, String text) {
        x.end(0);
        tape(x, text);
        return x.net();
    }

    static long words(RoundWalks x, String text) {
        x.end(0);
        tape(x, text);
        return x.words();
    }

    static long rank(RoundWalks x, int... arcs) {
        StringBuilder text = new StringBuilder();
        for (int k : arcs) {
            text.append((char) (k & 255));
        }
        x.end(0);
        tape(x, text.toString());
        return x.rank();
    }

    /** The text of a net with so many points (a, b, ..) and the arcs told as pairs: "ab bc". */
    static String text(int points, String arcs) {
        StringBuilder text = new StringBuilder();
        for (int p = 0; p < points; p++) {
            text.append("point ").append((char) ('a' + p)).append(';');
        }
        for (String arc : arcs.split(" ")) {
            if (!arc.isEmpty()) {
                text.append("arc ").append(arc.charAt(0)).append(' ').append(arc.charAt(1)).append(';');
            }
        }
        return text.toString();
    }

    static RoundWalks make(int points, String arcs) {
        RoundWalks x = new RoundWalks();
        net(x, text(points, arcs));
        return x;
    }
}
