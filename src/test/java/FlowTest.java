import java.util.Random;

/** again(), righted() on many larger nets, where a way that was taken first must be given back; lack() on lopsided ones. */
public final class FlowTest {
    private static final int MOST_TRIED = 6;

    public static void main(String[] args) {
        Check check = new Check();
        fixed(check);
        Random chance = new Random(2026);
        for (int i = 0; i < 10000 && !check.failed(); i++) {
            RoundWalks x = new RoundWalks();
            Model m = new Model();
            String text = i % 2 == 0 ? strongNet(chance) : evenNet(chance);
            check.part(text);
            Check.net(x, text);
            tell(m, text);
            check.due("again", x.again(), m.again());
            if (i % 2 == 1) {
                check.due("righted", x.righted(1), m.righted(1));
            }
        }
        lacks(check);
        check.close();
    }

    /** Few points, most arcs from the first ones to the last ones: many arcs are lacking. */
    private static void lacks(Check check) {
        Random chance = new Random(27);
        int[] seen = new int[MOST_TRIED + 1];
        for (int i = 0; i < 3000 && !check.failed(); i++) {
            int points = 2 + chance.nextInt(3);
            int arcs = 1 + chance.nextInt(9);
            StringBuilder pairs = new StringBuilder();
            for (int k = 0; k < arcs; k++) {
                int p = chance.nextInt(points);
                int q = chance.nextInt(10) == 0 ? p : (p + 1 + chance.nextInt(points - 1)) % points;
                boolean along = p <= q || chance.nextInt(8) == 0;
                pairs.append((char) ('a' + (along ? p : q))).append((char) ('a' + (along ? q : p))).append(' ');
            }
            String text = Check.text(points, pairs.toString());
            RoundWalks x = new RoundWalks();
            Model m = new Model();
            check.part(text);
            Check.net(x, text);
            tell(m, text);
            int lack = x.lack();
            check.due("lack", lack, m.lack());
            if (lack >= 0 && lack <= MOST_TRIED && m.triesAll(lack)) {
                seen[lack]++;
            }
        }
        check.part("lack");
        for (int many = 0; many <= MOST_TRIED; many++) {
            check.due(many + " arcs, all tried, came often", seen[many] >= 10, true);
        }
    }

    private static void fixed(Check check) {
        check.part("fixed");
        // The way that is cheapest first must be given back in part.
        RoundWalks x = Check.make(6, "fd bd bf ef ed dd bd cb ac af");
        check.due("righted", x.righted(1), 530);
        check.due("righted", x.righted(0), 3);
    }

    private static void tell(Model m, String text) {
        byte[] bytes = Check.bytes(text);
        for (int j = 0; j < text.length(); j += 20) {
            m.feed(Check.number(bytes, j), Check.number(bytes, j + 4), Check.number(bytes, j + 8), Check.number(bytes, j + 12),
                Check.number(bytes, j + 16));
        }
        m.end(text.length());
        m.net();
    }

    /** A ring through all points, and arcs by chance. */
    private static String strongNet(Random chance) {
        int points = 2 + chance.nextInt(7);
        int arcs = points + chance.nextInt(17 - points);
        StringBuilder pairs = new StringBuilder();
        for (int k = 0; k < arcs; k++) {
            int p = k < points ? k : chance.nextInt(points);
            int q = k < points ? (k + 1) % points : chance.nextInt(points);
            pairs.append((char) ('a' + p)).append((char) ('a' + q)).append(' ');
        }
        return Check.text(points, pairs.toString());
    }

    /** Rounds, of which each arc is turned by chance: so it can be righted. */
    private static String evenNet(Random chance) {
        int points = 2 + chance.nextInt(7);
        int arcs = 2 + chance.nextInt(15);
        StringBuilder pairs = new StringBuilder();
        int from = chance.nextInt(points);
        int here = from;
        for (int k = 0; k < arcs; k++) {
            int next = k == arcs - 1 ? from : chance.nextInt(points);
            char p = (char) ('a' + here);
            char q = (char) ('a' + next);
            pairs.append(chance.nextBoolean() ? "" + p + q : "" + q + p).append(' ');
            here = next;
        }
        return Check.text(points, pairs.toString());
    }
}
