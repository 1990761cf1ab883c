import java.util.ArrayList;
import java.util.List;
import java.util.Random;

/** Runs of calls by chance, each asked of the class and of the model: promises 1 to 35. */
public final class ModelTest {
    private static final int RUNS = Integer.getInteger("runs", 400);
    private static final int CALLS = 512;

    private final Random chance;
    private final Check check;
    private final RoundWalks x = new RoundWalks();
    private final Model m = new Model();
    private final int most;
    private final List<String> told = new ArrayList<>();
    private int calls = 0;

    private ModelTest(int run, Check check) {
        this.chance = new Random(run * 7919L + 5);
        this.check = check;
        // Most runs keep to few arcs: the model tries all there is.
        this.most = run % 10 == 0 ? 16 : 4 + chance.nextInt(7);
        check.part("run " + run);
    }

    public static void main(String[] args) {
        Check check = new Check();
        for (int run = 0; run < RUNS && !check.failed(); run++) {
            new ModelTest(run, check).run();
        }
        texts(check);
        check.close();
    }

    private void run() {
        while (calls < CALLS - 60 && !check.failed()) {
            step();
        }
        if (check.failed()) {
            for (String call : told) {
                System.out.println("  " + call);
            }
        }
    }

    private void ask(String what, Check.Call class1, Check.Call model) {
        calls++;
        long want = Check.answer(model);
        told.add(what + " due " + Check.told(want));
        check.due(what, Check.answer(class1), want);
    }

    private int any(int below) {
        return chance.nextInt(below);
    }

    private void step() {
        int choice = any(100);
        if (choice < 8) {
            feed(netText());
            ask("net", x::net, m::net);
            ask("fault", x::fault, m::fault);
        } else if (choice < 12) {
            int k = any(7) - 1;
            int n = any(7) - 1;
            if (Math.pow(Math.max(k, 1), Math.max(n, 1)) <= most || any(8) == 0) {
                ask("braid " + k + " " + n, () -> x.braid(k, n), () -> m.braid(k, n));
            }
        } else if (choice < 30) {
            act();
        } else if (choice < 36) {
            level();
        } else if (choice < 55) {
            tellNet();
        } else if (choice < 65) {
            tellTrees();
        } else if (choice < 85) {
            tellWalks();
        } else {
            tellWords();
        }
    }

    /** Few arcs are kept by dropping some. */
    private void act() {
        int choice = any(12);
        if (m.now(1) > most) {
            choice = 5;
        }
        int p = any(10) - 1;
        int q = any(10) - 1;
        int k = any(Math.max(2, m.now(1) + 1)) - (any(20) == 0 ? 1 : 0);
        int seed = chance.nextInt();
        int n = any(12) == 0 ? any(70) - 4 : any(8);
        if (choice < 4) {
            ask("add " + p + " " + q, () -> x.add(p, q), () -> m.add(p, q));
        } else if (choice < 6) {
            ask("drop " + k, () -> x.drop(k), () -> m.drop(k));
        } else if (choice < 8) {
            ask("turn " + k, () -> x.turn(k), () -> m.turn(k));
        } else if (choice == 8) {
            ask("deeds " + n + " " + seed, () -> x.deeds(n, seed), () -> m.deeds(n, seed));
        } else if (choice == 9) {
            ask("undo", x::undo, m::undo);
        } else if (choice == 10) {
            ask("image " + (k - 1), () -> x.image(k - 1) ? 1 : 0, () -> m.image(k - 1) ? 1 : 0);
        } else {
            ask("restore " + (k - 1), () -> x.restore(k - 1) ? 1 : 0, () -> m.restore(k - 1) ? 1 : 0);
        }
    }

    /** Adds arcs until there are walks: by chance alone there are few. */
    private void level() {
        for (int times = 0; times < 6 && m.kind() == 0 && m.now(1) < most; times++) {
            int more = m.now(5);
            int less = m.now(4);
            int p = more != 0 ? Integer.numberOfTrailingZeros(more) : any(8);
            int q = less != 0 ? Integer.numberOfTrailingZeros(less) : any(8);
            ask("add " + p + " " + q, () -> x.add(p, q), () -> m.add(p, q));
        }
        ask("kind", x::kind, m::kind);
    }

    private void tellNet() {
        int what = any(13) - 2;
        int k = any(19) - 1;
        int end = any(5) - 1;
        switch (any(8)) {
            case 0:
            case 1:
                ask("now " + what, () -> x.now(what), () -> m.now(what));
                break;
            case 2:
                ask("arc " + k + " " + end, () -> x.arc(k, end), () -> m.arc(k, end));
                break;
            case 3:
                ask("degree " + k + " " + end, () -> x.degree(k, end), () -> m.degree(k, end));
                break;
            case 4:
                ask("kind", x::kind, m::kind);
                ask("ends " + end, () -> x.ends(end), () -> m.ends(end));
                break;
            case 5:
                ask("again", x::again, m::again);
                break;
            case 6:
                ask("lack", x::lack, m::lack);
                break;
            default:
                ask("righted " + end, () -> x.righted(end), () -> m.righted(end));
        }
    }

    private void tellTrees() {
        int r = any(10) - 1;
        ask("trees " + r, () -> x.trees(r), () -> m.trees(r));
        int many = (int) Math.max(1, m.trees(r));
        int k = any(many + 1) - (any(10) == 0 ? 1 : 0);
        ask("tree " + r + " " + k, () -> x.tree(r, k), () -> m.tree(r, k));
    }

    private void tellWalks() {
        ask("walks", x::walks, m::walks);
        long many = m.walks();
        long rank = (long) (chance.nextDouble() * (many + 1)) - (any(12) == 0 ? 1 : 0);
        int seed = chance.nextInt();
        switch (any(5)) {
            case 0:
                ask("walk " + rank, () -> x.walk(rank), () -> m.walk(rank));
                break;
            case 1:
                ask("drawn " + seed, () -> x.drawn(seed), () -> m.drawn(seed));
                break;
            case 2:
                feed(walkText());
                ask("rank", x::rank, m::rank);
                break;
            default:
                int tree = treeBits();
                ask("by " + tree, () -> x.by(tree), () -> m.by(tree));
                ask("first " + tree, () -> x.first(tree), () -> m.first(tree));
        }
        ask("lasts", x::lasts, m::lasts);
        for (int j = 0; j < 3; j++) {
            int i = any(18) - 1;
            ask("walkAt " + i, () -> x.walkAt(i), () -> m.walkAt(i));
        }
    }

    private int treeBits() {
        int goal = m.ends(1);
        if (goal >= 0 && m.trees(goal) > 0 && any(5) > 0) {
            return m.tree(goal, any((int) m.trees(goal)));
        }
        return any(3) == 0 ? chance.nextInt() : any(1 << Math.min(16, m.now(1) + 1));
    }

    /** The walk that was looked at, or a row of arcs as one goes by chance, sometimes spoiled. */
    private String walkText() {
        StringBuilder text = new StringBuilder();
        for (int i = 0; m.walkAt(i) >= 0; i++) {
            text.append((char) m.walkAt(i));
        }
        if (text.length() != m.now(1) || any(2) == 0) {
            text.setLength(0);
            boolean[] gone = new boolean[16];
            int here = m.ends(0);
            for (int i = 0; i < m.now(1); i++) {
                List<Integer> can = new ArrayList<>();
                for (int k = 0; k < m.now(1); k++) {
                    if (!gone[k] && (m.arc(k, 0) == here || here < 0)) {
                        can.add(k);
                    }
                }
                if (can.isEmpty()) {
                    break;
                }
                int k = i == 0 && m.kind() == 1 && any(6) > 0 ? 0 : can.get(any(can.size()));
                gone[k] = true;
                here = m.arc(k, 1);
                text.append((char) k);
            }
        }
        if (text.length() > 0 && any(8) == 0) {
            text.setCharAt(any(text.length()), (char) any(any(2) == 0 ? 256 : 17));
        }
        if (any(20) == 0) {
            text.append((char) 0);
        }
        return text.toString();
    }

    private void tellWords() {
        if (any(3) > 0) {
            StringBuilder word = new StringBuilder();
            int kinds = 1 + any(any(6) == 0 ? 12 : 4);
            int length = any(15) == 0 ? any(22) : 2 + any(any(3) == 0 ? 16 : 9);
            for (int i = 0; i < length; i++) {
                word.append((char) ('a' + any(kinds) * 2));
            }
            if (length > 0 && any(15) == 0) {
                word.setCharAt(any(length), (char) any(256));
            }
            feed(word.toString());
            ask("words", x::words, m::words);
        }
        ask("wordRank", x::wordRank, m::wordRank);
        long rank = any(any(3) == 0 ? 1000 : 10) - 1;
        ask("word " + rank, () -> x.word(rank), () -> m.word(rank));
        for (int j = 0; j < 3; j++) {
            int i = any(19) - 1;
            ask("letterAt " + i, () -> x.letterAt(i), () -> m.letterAt(i));
        }
    }

    private void feed(String text) {
        if (any(30) > 0) {
            ask("end 0", () -> x.end(0) ? 1 : 0, () -> m.end(0) ? 1 : 0);
        }
        byte[] bytes = Check.bytes(text);
        int length = m.now(8) + text.length();
        told.add("text " + text.replace("\n", "\\n"));
        for (int i = 0; i < text.length(); i += 20) {
            int a = Check.number(bytes, i);
            int b = Check.number(bytes, i + 4);
            int c = Check.number(bytes, i + 8);
            int d = Check.number(bytes, i + 12);
            int e = Check.number(bytes, i + 16);
            ask("feed", () -> x.feed(a, b, c, d, e), () -> m.feed(a, b, c, d, e));
        }
        int off = any(40) == 0 ? any(3) - 1 : 0;
        ask("end", () -> x.end(length + off) ? 1 : 0, () -> m.end(length + off) ? 1 : 0);
    }

    private String netText() {
        int points = any(10) == 0 ? any(10) : 1 + any(any(3) == 0 ? 8 : 4);
        int arcs = any(12) == 0 ? any(18) : any(most + 1);
        return text(chance, points, arcs);
    }

    private static String text(Random chance, int points, int arcs) {
        StringBuilder text = new StringBuilder();
        List<String> names = new ArrayList<>();
        for (int p = 0; p < points; p++) {
            StringBuilder name = new StringBuilder();
            for (int i = 1 + (chance.nextInt(4) == 0 ? chance.nextInt(7) : 0); i > 0; i--) {
                name.append((char) ('a' + chance.nextInt(26)));
            }
            names.add(name.toString());
            text.append(blanks(chance, 0)).append("point").append(blanks(chance, 1)).append(name).append(blanks(chance, 0)).append(';');
        }
        for (int k = 0; k < arcs && points > 0; k++) {
            text.append(blanks(chance, 0)).append("arc").append(blanks(chance, 1)).append(names.get(chance.nextInt(points)));
            text.append(blanks(chance, 1)).append(names.get(chance.nextInt(points))).append(blanks(chance, 0)).append(';');
        }
        if (text.length() > 0 && chance.nextInt(6) == 0) {
            int at = chance.nextInt(text.length());
            String[] odd = {"", ";", " ", "\n", "a", "point", "arc", " point ", " arc ", "A", "1", "\t", "\u00e9", "\0", "zzzzzzz", " q "};
            text.replace(at, Math.min(text.length(), at + chance.nextInt(3)), odd[chance.nextInt(odd.length)]);
        }
        text.setLength(Math.min(text.length(), 540));
        return text.toString();
    }

    private static String blanks(Random chance, int least) {
        int many = least + (chance.nextInt(5) == 0 ? chance.nextInt(3) : 0);
        StringBuilder blanks = new StringBuilder();
        for (int i = 0; i < many; i++) {
            blanks.append(chance.nextInt(3) == 0 ? '\n' : ' ');
        }
        return blanks.toString();
    }

    /** Texts alone, many of them about as long as a net may be. */
    private static void texts(Check check) {
        Random chance = new Random(4711);
        for (int i = 0; i < 30000 && !check.failed(); i++) {
            check.part("text " + i);
            StringBuilder text = new StringBuilder(text(chance, chance.nextInt(10), chance.nextInt(18)));
            if (chance.nextInt(2) == 0) {
                int length = 480 + chance.nextInt(61);
                while (text.length() < length) {
                    int at = chance.nextInt(text.length() + 1);
                    boolean ahead = at == 0 || text.charAt(at - 1) == ';' || text.charAt(at - 1) == ' ';
                    if (ahead || at == text.length()) {
                        text.insert(at, "          ".substring(0, 1 + chance.nextInt(9)));
                    }
                }
                text.setLength(Math.min(text.length(), chance.nextInt(3) == 0 ? 540 : 498 + chance.nextInt(8)));
            }
            RoundWalks x = new RoundWalks();
            Model m = new Model();
            byte[] bytes = Check.bytes(text.toString());
            for (int j = 0; j < text.length(); j += 20) {
                int a = Check.number(bytes, j);
                int b = Check.number(bytes, j + 4);
                int c = Check.number(bytes, j + 8);
                int d = Check.number(bytes, j + 12);
                int e = Check.number(bytes, j + 16);
                check.due("feed", x.feed(a, b, c, d, e), m.feed(a, b, c, d, e));
            }
            x.end(text.length());
            m.end(text.length());
            check.due("net of " + text, x.net(), m.net());
            check.due("fault of " + text, x.fault(), m.fault());
            for (int what = 0; what < 9; what++) {
                check.due("now " + what, x.now(what), m.now(what));
            }
        }
    }
}
