/** The promises one by one: ordinary calls, edges that the document names, wrong inputs. */
public final class PromiseTest {
    private static final Check check = new Check();
    private static final int NONE = RoundWalks.NONE;

    public static void main(String[] args) {
        newObject();
        tape();
        net();
        faults();
        longTexts();
        now();
        arcAndDegree();
        kindAndEnds();
        trees();
        walks();
        lookedAt();
        rank();
        byAndFirst();
        drawn();
        words();
        wordsLookedAt();
        braid();
        again();
        lack();
        righted();
        addDropTurn();
        deeds();
        undo();
        images();
        throwingChangesNothing();
        check.close();
    }

    private static void newObject() {
        check.part("1");
        RoundWalks x = new RoundWalks();
        check.due("NONE", NONE, -1);
        check.due("points", x.now(0), 0);
        check.due("arcs", x.now(1), 0);
        check.due("tape", x.now(8), 0);
        check.due("acts", x.now(7), 0);
        check.due("fault", x.fault(), 0);
        check.due("undo", x.undo(), NONE);
        check.due("walkAt", x.walkAt(0), NONE);
        check.due("lasts", x.lasts(), NONE);
        check.due("wordRank", x.wordRank(), NONE);
        check.due("letterAt", x.letterAt(0), NONE);
        check.due("net of an empty tape", x.net(), 0);
    }

    private static void tape() {
        check.part("2, 3");
        RoundWalks x = new RoundWalks();
        for (int i = 1; i <= 27; i++) {
            check.due("feed", x.feed(-1, 0, 1, 2, 3), 20L * i);
        }
        check.due("feed behind 540", x.feed(0, 0, 0, 0, 0), NONE);
        check.due("now(8)", x.now(8), 540);
        check.due("end(541)", x.end(541), false);
        check.due("end(-1)", x.end(-1), false);
        check.due("end(540)", x.end(540), true);
        check.due("end(521)", x.end(521), true);
        check.due("end(522)", x.end(522), false);
        check.due("feed at 521", x.feed(0, 0, 0, 0, 0), NONE);
        check.due("end(520)", x.end(520), true);
        check.due("feed at 520", x.feed(0, 0, 0, 0, 0), 540);
        check.due("end(0)", x.end(0), true);
        check.due("end(0) of none", x.end(0), true);
        check.due("end(1) of none", x.end(1), false);
        // The highest byte comes first: "ab" then "ba" behind one another are a word.
        x.feed('a' << 24 | 'b' << 16 | 'b' << 8 | 'a', 'c' << 24, 0, 0, 0);
        x.end(5);
        check.due("words", x.words(), 1);
        x.word(0);
        check.due("second letter", x.letterAt(1), 'b');
        check.due("fourth letter", x.letterAt(3), 'a');
        check.due("fifth letter", x.letterAt(4), 'c');
    }

    private static void net() {
        check.part("4");
        RoundWalks x = new RoundWalks();
        check.due("rows", Check.net(x, "point a;point b;arc a b;arc b a;arc a a;"), 5);
        check.due("points", x.now(0), 2);
        check.due("arcs", x.now(1), 3);
        check.due("tape", x.now(8), 0);
        check.due("blanks", Check.net(x, "\n point\nabcdefg ;  arc abcdefg\n\nabcdefg\n;arc abcdefg abcdefg;\n"), 3);
        check.due("arcs", x.now(1), 2);
        check.due("no blanks needed at ;", Check.net(x, "point a;arc a a;point b;"), 3);
        check.due("blanks alone", Check.net(x, " \n "), 0);
        check.due("points", x.now(0), 0);
        check.due("a fault", Check.net(x, "point a;point"), -14);
        check.due("tape behind a fault", x.now(8), 0);
        x = Check.make(2, "ab");
        x.add(1, 0);
        check.due("a fault", Check.net(x, "x"), -1);
        check.due("the net stays", x.now(1), 2);
        check.due("acts stay", x.now(7), 1);
        check.due("a net", Check.net(x, "point q;"), 1);
        check.due("no acts", x.now(7), 0);
        check.due("undo", x.undo(), NONE);
        check.due("16 arcs, 8 points", Check.net(x, Check.text(8, "aa bb cc dd ee ff gg hh ab bc cd de ef fg gh ha")), 24);
        check.due("points named like the words", Check.net(x, "point points;point ar;point arcs;arc points arcs;"), 4);
    }

    private static void fault(String text, int place, int kind) {
        RoundWalks x = new RoundWalks();
        check.due("net of " + text, Check.net(x, text), -1L - place);
        check.due("fault of " + text, x.fault(), kind);
    }

    private static void faults() {
        check.part("4, 5");
        fault("1", 0, 1);
        fault(";", 0, 1);
        fault("a", 0, 1);
        fault("Point a;", 0, 1);
        fault("pointa;", 0, 1);
        fault("point;", 5, 1);
        fault("point a", 7, 1);
        fault("point a \n", 9, 1);
        fault("point a b;", 8, 1);
        fault("point a;;", 8, 1);
        fault("point point;", 6, 1);
        fault("point arc;", 6, 1);
        fault("point abcdefgh;", 6, 1);
        fault("point a\t;", 7, 1);
        fault("point \u00e1;", 6, 1);
        fault("point a;arc a;", 13, 1);
        fault("point a;arc a arc;", 14, 1);
        fault("point a;arc point a;", 12, 1);
        fault("point a;arc a a a;", 16, 1);
        fault("point a;arc a a", 15, 1);
        fault("point a;point a;", 14, 2);
        fault("arc a a;point a;", 4, 2);
        fault("point a;arc a b;", 14, 2);
        fault("point a;arc b a;", 12, 2);
        fault("point a;arc b 1;", 12, 2);
        fault("point a;point a", 14, 2);
        String eight = Check.text(8, "");
        fault(eight + "point i;", 64, 3);
        fault(eight + "point a;", 64, 3);
        fault(eight + " point i;", 65, 3);
        fault(eight + "point 1;", 64, 3);
        fault(eight + "arc point", 68, 1);
        String sixteen = Check.text(1, "aa aa aa aa aa aa aa aa aa aa aa aa aa aa aa aa");
        fault(sixteen + "arc a a;", 136, 3);
        fault(sixteen + "\narc z a;", 137, 3);
        fault(sixteen + "point b;point c;arc", 152, 3);
        RoundWalks x = new RoundWalks();
        Check.net(x, "1");
        check.due("fault", x.fault(), 1);
        Check.net(x, "point a;");
        check.due("fault behind a net", x.fault(), 0);
    }

    private static void longTexts() {
        check.part("4, 500 bytes");
        String filled = "point a;" + " ".repeat(484);
        RoundWalks x = new RoundWalks();
        check.due("500 bytes", Check.net(x, filled + "point b;"), 2);
        fault(filled + "point b; ", 500, 1);
        fault(filled + "point b;1", 500, 1);
        fault(filled + " point b;", 500, 1);
        fault(filled + "       q", 499, 1);
        fault(filled + "        q", 500, 1);
        fault(filled + "  point bb;", 500, 1);
        fault(filled + " point a;", 499, 2);
        fault(filled + " point", 498, 1);
        fault(filled + "  point ", 500, 1);
        fault(filled + "point abcdefgh", 498, 1);
        fault(filled + "point abcdefg;", 500, 1);
        fault("point abc;" + " ".repeat(482) + "point abc;", 498, 2);
        fault("point ab;" + " ".repeat(483) + "point abc;", 500, 1);
        fault("1" + filled + "point b;", 0, 1);
        fault(" ".repeat(501), 500, 1);
        fault(" ".repeat(540), 500, 1);
        check.due("500 blanks", Check.net(x, " ".repeat(500)), 0);
        String eight = Check.text(8, "");
        fault(eight + " ".repeat(435) + "point i;", 499, 3);
        fault(eight + " ".repeat(436) + "point i;", 500, 1);
    }

    private static void now() {
        check.part("6");
        RoundWalks x = Check.make(6, "ab bc ca cd");
        int[] due = {6, 4, 15, 1, 4, 8, 0, 0, 0};
        for (int what = 0; what < 9; what++) {
            check.due("now " + what, x.now(what), due[what]);
        }
        check.due("now -1", x.now(-1), NONE);
        check.due("now 9", x.now(9), NONE);
        x = Check.make(4, "ab ba cd dc");
        check.due("joined", x.now(3), 0);
        check.due("strong", x.now(6), 0);
        x = Check.make(4, "bc cb");
        check.due("used", x.now(2), 6);
        check.due("joined", x.now(3), 1);
        check.due("strong", x.now(6), 1);
        x = Check.make(4, "");
        check.due("joined without arcs", x.now(3), 1);
        check.due("strong without arcs", x.now(6), 1);
        x = Check.make(3, "ab cb");
        check.due("joined, gone either way", x.now(3), 1);
        check.due("out above in", x.now(4), 5);
        check.due("in above out", x.now(5), 2);
        x = Check.make(3, "ab bc");
        check.due("strong, last to first", x.now(6), 0);
        x.add(0, 0);
        check.due("acts", x.now(7), 1);
        x.feed(0, 0, 0, 0, 0);
        check.due("bytes", x.now(8), 20);
    }

    private static void arcAndDegree() {
        check.part("7, 8");
        RoundWalks x = Check.make(3, "ab bb ba");
        check.due("arc 0 0", x.arc(0, 0), 0);
        check.due("arc 0 1", x.arc(0, 1), 1);
        check.due("arc 2 0", x.arc(2, 0), 1);
        check.due("arc 2 1", x.arc(2, 1), 0);
        check.throwsNone("arc 3 0", () -> x.arc(3, 0));
        check.throwsNone("arc -1 0", () -> x.arc(-1, 0));
        check.throwsNone("arc 0 2", () -> x.arc(0, 2));
        check.throwsNone("arc 0 -1", () -> x.arc(0, -1));
        check.due("out of b", x.degree(1, 0), 2);
        check.due("in of b", x.degree(1, 1), 2);
        check.due("out of c", x.degree(2, 0), 0);
        check.throwsNone("degree 3 0", () -> x.degree(3, 0));
        check.throwsNone("degree -1 1", () -> x.degree(-1, 1));
        check.throwsNone("degree 0 2", () -> x.degree(0, 2));
        check.throwsNone("degree 0 -1", () -> x.degree(0, -1));
    }

    private static void ends(int points, String arcs, int kind, int begin, int end) {
        RoundWalks x = Check.make(points, arcs);
        check.due("kind of " + arcs, x.kind(), kind);
        check.due("begin of " + arcs, x.ends(0), begin);
        check.due("end of " + arcs, x.ends(1), end);
        check.due("ends 2 of " + arcs, x.ends(2), NONE);
        check.due("ends -1 of " + arcs, x.ends(-1), NONE);
    }

    private static void kindAndEnds() {
        check.part("9, 10");
        ends(0, "", 0, NONE, NONE);
        ends(2, "", 0, NONE, NONE);
        ends(1, "aa", 1, 0, 0);
        ends(3, "bc ca ab", 1, 1, 1);
        ends(8, "hg gh", 1, 7, 7);
        ends(3, "ba ac", 2, 1, 2);
        ends(3, "ab ab ba", 2, 0, 1);
        ends(3, "ab ab", 0, NONE, NONE);
        ends(4, "ab ba cd dc", 0, NONE, NONE);
        ends(4, "ab cc", 0, NONE, NONE);
        ends(4, "ab cd", 0, NONE, NONE);
        ends(4, "ab bc ad", 0, NONE, NONE);
        ends(5, "ab ac ad ba", 0, NONE, NONE);
    }

    private static void trees() {
        check.part("11, 12");
        RoundWalks x = Check.make(5, "ab ba bc cb ac aa ab");
        // To a: of b 1; of c 3. To a by: {1, 3} alone.
        check.due("to a", x.trees(0), 1);
        check.due("to a, 0", x.tree(0, 0), 10);
        // To c: b by 2, a by 0, 4, 6; b by 1, a by 4.
        check.due("to c", x.trees(2), 4);
        check.due("to c, 0", x.tree(2, 0), 1 << 0 | 1 << 2);
        check.due("to c, 1", x.tree(2, 1), 1 << 1 | 1 << 4);
        check.due("to c, 2", x.tree(2, 2), 1 << 2 | 1 << 4);
        check.due("to c, 3", x.tree(2, 3), 1 << 2 | 1 << 6);
        check.throwsNone("to c, 4", () -> x.tree(2, 4));
        check.throwsNone("to c, -1", () -> x.tree(2, -1));
        check.due("to d", x.trees(3), NONE);
        check.due("to none", x.trees(5), NONE);
        check.due("to -1", x.trees(-1), NONE);
        check.throwsNone("to d, 0", () -> x.tree(3, 0));
        check.throwsNone("to 5, 0", () -> x.tree(5, 0));
        check.throwsNone("to -1, 0", () -> x.tree(-1, 0));
        RoundWalks loop = Check.make(2, "bb");
        check.due("one point", loop.trees(1), 1);
        check.due("one point, 0", loop.tree(1, 0), 0);
        check.throwsNone("one point, 1", () -> loop.tree(1, 1));
        RoundWalks away = Check.make(2, "ab");
        check.due("away from a", away.trees(0), 0);
        check.throwsNone("away from a, 0", () -> away.tree(0, 0));
        RoundWalks most = Check.make(7, "ba ba ba ca ca ca da da da ea ea ea fa fa ga ga");
        check.due("most trees", most.trees(0), 324);
        check.due("most trees, first", most.tree(0, 0), 1 | 1 << 3 | 1 << 6 | 1 << 9 | 1 << 12 | 1 << 14);
        check.due("most trees, last", most.tree(0, 323), 1 << 2 | 1 << 5 | 1 << 8 | 1 << 11 | 1 << 13 | 1 << 15);
    }

    private static void walks() {
        check.part("13");
        check.due("none", new RoundWalks().walks(), 0);
        check.due("no arcs", Check.make(3, "").walks(), 0);
        check.due("round", Check.make(2, "ab ba aa").walks(), 1);
        check.due("two rounds at a point", Check.make(3, "ab ba ac ca").walks(), 1);
        check.due("three rounds at a point", Check.make(4, "ab ba ac ca ad da").walks(), 2);
        check.due("open", Check.make(2, "ab ba ab").walks(), 2);
        check.due("open, loops at the end", Check.make(2, "ab bb bb bb").walks(), 6);
        check.due("open, loops at the begin", Check.make(2, "aa aa aa ab").walks(), 6);
        check.due("not joined", Check.make(4, "ab ba cd dc").walks(), 0);
        check.due("not level", Check.make(2, "ab ab").walks(), 0);
        check.due("most loops", Check.make(1, "aa aa aa aa aa aa aa aa aa aa aa aa aa aa aa aa").walks(), 1307674368000L);
        check.due("most, open", Check.make(2, "aa aa aa aa aa aa aa aa aa aa aa aa aa aa aa ab").walks(), 1307674368000L);
    }

    private static void walkIs(RoundWalks x, int... arcs) {
        for (int i = 0; i < arcs.length; i++) {
            check.due("walkAt " + i, x.walkAt(i), arcs[i]);
        }
        check.due("walkAt -1", x.walkAt(-1), NONE);
        check.due("walkAt behind", x.walkAt(arcs.length), NONE);
    }

    private static void lookedAt() {
        check.part("14, 15, 16");
        RoundWalks x = Check.make(4, "ab ba ac ca ad da");
        check.due("walk 0", x.walk(0), 5);
        walkIs(x, 0, 1, 2, 3, 4, 5);
        check.due("lasts", x.lasts(), 1 << 1 | 1 << 3 | 1 << 5);
        check.due("walk 1", x.walk(1), 3);
        walkIs(x, 0, 1, 4, 5, 2, 3);
        check.throwsNone("walk 2", () -> x.walk(2));
        check.throwsNone("walk -1", () -> x.walk(-1));
        check.throwsNone("walk far", () -> x.walk(Long.MAX_VALUE));
        walkIs(x, 0, 1, 4, 5, 2, 3);
        x.drop(0);
        check.throwsNone("walk of none", () -> new RoundWalks().walk(0));
        walkIs(x, 0, 1, 4, 5, 2, 3);
        check.due("lasts stay", x.lasts(), 1 << 1 | 1 << 3 | 1 << 5);
        Check.net(x, "point a;");
        walkIs(x, 0, 1, 4, 5, 2, 3);
        check.due("lasts stay", x.lasts(), 1 << 1 | 1 << 3 | 1 << 5);
        RoundWalks open = Check.make(2, "bb ab ba ab bb");
        // From a to b: 1 or 3 first, then loops and 2 in between.
        check.due("walks", open.walks(), 12);
        check.due("walk 0", open.walk(0), 4);
        walkIs(open, 1, 0, 2, 3, 4);
        check.due("lasts", open.lasts(), 1 << 3);
        check.due("walk 11", open.walk(11), 0);
        walkIs(open, 3, 4, 2, 1, 0);
        check.due("lasts", open.lasts(), 1 << 1);
        RoundWalks loops = Check.make(1, "aa aa aa");
        check.due("walk 1", loops.walk(1), 1);
        walkIs(loops, 0, 2, 1);
        check.due("lasts of one point", loops.lasts(), 0);
    }

    private static void rank() {
        check.part("17");
        RoundWalks x = Check.make(4, "ab ba ac ca ad da");
        check.due("rank 0", Check.rank(x, 0, 1, 2, 3, 4, 5), 0);
        walkIs(x, 0, 1, 2, 3, 4, 5);
        check.due("rank 1", Check.rank(x, 0, 1, 4, 5, 2, 3), 1);
        walkIs(x, 0, 1, 4, 5, 2, 3);
        check.due("tape", x.now(8), 0);
        check.due("another arc first", Check.rank(x, 2, 3, 0, 1, 4, 5), NONE);
        check.due("an arc too few", Check.rank(x, 0, 1, 2, 3, 4), NONE);
        check.due("an arc too many", Check.rank(x, 0, 1, 2, 3, 4, 5, 0), NONE);
        check.due("an arc twice", Check.rank(x, 0, 1, 0, 1, 4, 5), NONE);
        check.due("no such arc", Check.rank(x, 0, 1, 2, 3, 4, 6), NONE);
        check.due("a high byte", Check.rank(x, 0, 1, 2, 3, 4, 255), NONE);
        check.due("not one behind another", Check.rank(x, 0, 2, 1, 3, 4, 5), NONE);
        check.due("nothing", Check.rank(x), NONE);
        walkIs(x, 0, 1, 4, 5, 2, 3);
        check.due("tape", x.now(8), 0);
        x.feed(0, 0, 0, 0, 0);
        check.due("too long", x.rank(), NONE);
        check.due("tape", x.now(8), 0);
        RoundWalks open = Check.make(2, "bb ab ba ab bb");
        check.due("open", Check.rank(open, 3, 4, 2, 1, 0), 11);
        check.due("lasts", open.lasts(), 2);
        check.due("open, wrong begin", Check.rank(open, 2, 1, 0, 4, 3), NONE);
        check.due("none", Check.rank(new RoundWalks()), NONE);
        check.due("not level", Check.rank(Check.make(2, "ab ab"), 0, 1), NONE);
        RoundWalks most = Check.make(1, "aa aa aa aa aa aa aa aa aa aa aa aa aa aa aa aa");
        check.due("last of most", Check.rank(most, 0, 15, 14, 13, 12, 11, 10, 9, 8, 7, 6, 5, 4, 3, 2, 1), 1307674367999L);
        check.due("walk of it", most.walk(1307674367999L), 1);
        check.due("walkAt 1", most.walkAt(1), 15);
    }

    private static void byAndFirst() {
        check.part("18, 19");
        RoundWalks x = Check.make(2, "ab ba ab ba");
        check.due("by 1", x.by(2), 1);
        check.due("by 3", x.by(8), 1);
        check.due("first by 1", x.first(2), 1);
        check.due("first by 3", x.first(8), 0);
        check.due("by none", x.by(0), 0);
        check.due("by both", x.by(10), 0);
        check.due("by the end's", x.by(1), 0);
        check.due("by no arc", x.by(16), 0);
        check.due("by no arc, high", x.by(2 | 1 << 31), 0);
        check.due("by all", x.by(-1), 0);
        check.due("first by none", x.first(0), NONE);
        check.due("first by all", x.first(-1), NONE);
        check.due("first by the end's", x.first(1), NONE);
        RoundWalks turning = Check.make(3, "ab ba bc cb ca ac");
        check.due("by a ring", turning.by(1 << 2 | 1 << 3), 0);
        check.due("by a tree", turning.by(1 << 1 | 1 << 4), 1);
        RoundWalks open = Check.make(2, "bb ab ba ab bb");
        check.due("by 1", open.by(2), 6);
        check.due("by 3", open.by(8), 6);
        check.due("first by 1", open.first(2), 6);
        check.due("first by 3", open.first(8), 0);
        check.due("looks at nothing", open.walkAt(0), NONE);
        check.due("by of none", new RoundWalks().by(0), 0);
        check.due("first of none", new RoundWalks().first(0), NONE);
        RoundWalks loops = Check.make(1, "aa aa aa");
        check.due("by of loops", loops.by(0), 2);
        check.due("first of loops", loops.first(0), 0);
        check.due("by a loop", loops.by(1), 0);
        RoundWalks uneven = Check.make(2, "ab ab");
        check.due("by, not level", uneven.by(1), 0);
        check.due("first, not level", uneven.first(1), NONE);
    }

    private static void drawn() {
        check.part("20");
        check.due("not level", Check.make(2, "ab ab").drawn(1), NONE);
        check.due("none", new RoundWalks().drawn(1), NONE);
        RoundWalks x = Check.make(1, "aa aa aa aa aa aa aa aa aa aa aa aa aa aa aa aa");
        long all = x.walks();
        // By this seed the first three draws are refused.
        check.due("refused", x.drawn(3255040), again(3255040, 2, all));
        check.due("taken", x.drawn(3255041), again(3255041, 1, all));
        long rank = x.drawn(-5);
        int second = x.walkAt(1);
        x.walk(0);
        x.walk(rank);
        check.due("looked at", x.walkAt(1), second);
        x = Check.make(2, "ab bb bb");
        check.due("2 walks, seed 1", x.drawn(1), again(1, 1, 2));
        check.due("2 walks, seed -1", x.drawn(-1), again(-1, 1, 2));
    }

    /** The number that the n-th three draws make, modulo many. */
    private static long again(int seed, int times, long many) {
        int s = seed;
        long number = 0;
        for (int i = 0; i < 3 * times; i++) {
            s = s * 1103515245 + 12345;
            number = i % 3 == 0 ? (s >>> 8) % 16384 : number * (1L << 24) + (s >>> 8);
        }
        return number % many;
    }

    private static void words() {
        check.part("21, 22");
        RoundWalks x = new RoundWalks();
        check.due("no word", Check.words(x, ""), NONE);
        check.due("one letter", Check.words(x, "a"), NONE);
        check.due("rank ahead of any", x.wordRank(), NONE);
        check.due("two letters", Check.words(x, "zz"), 1);
        check.due("abcab", Check.words(x, "abcab"), 1);
        check.due("abacaba", Check.words(x, "abacaba"), 3);
        check.due("rank of abacaba", x.wordRank(), 1);
        check.due("acababa", Check.words(x, "acababa"), 3);
        check.due("rank of acababa", x.wordRank(), 2);
        check.due("a large letter", Check.words(x, "abA"), NONE);
        check.due("a blank", Check.words(x, "ab "), NONE);
        check.due("18 letters", Check.words(x, "aaaaaaaaaaaaaaaaaa"), NONE);
        check.due("9 unlike ones", Check.words(x, "abcdefghi"), NONE);
        check.due("tape", x.now(8), 0);
        check.due("the one ahead stays", x.wordRank(), 2);
        check.due("8 unlike ones", Check.words(x, "zabcdefyzz"), 2);
        check.due("rank", x.wordRank(), 0);
        check.due("17 letters, 8 unlike ones", Check.words(x, "abacadaeafagahaaa"), factorial(9) / 2);
        check.due("rank", x.wordRank(), factorial(9) / 2 - 1 - lessAhead());
        check.due("mississippi", Check.words(x, "mississippi"), 9);
        check.due("rank", x.wordRank(), 6);
    }

    private static long factorial(int n) {
        return n < 2 ? 1 : n * factorial(n - 1);
    }

    /** Those behind abacadaeafagahaaa: rows of b to h and two empty rounds, ordered with a's least. */
    private static long lessAhead() {
        // The word is the rounds b c d e f g h, a, a. Behind it are those whose row of rounds is greater.
        long all = factorial(9) / 2;
        long ahead = 0;
        int[] left = {2, 1, 1, 1, 1, 1, 1, 1};
        int[] row = {1, 2, 3, 4, 5, 6, 7, 0, 0};
        for (int i = 0; i < row.length; i++) {
            for (int j = 0; j < row[i]; j++) {
                if (left[j] > 0) {
                    left[j]--;
                    ahead += factorial(8 - i) / factorial(left[0]);
                    left[j]++;
                }
            }
            left[row[i]]--;
        }
        return all - 1 - ahead;
    }

    private static void wordIs(RoundWalks x, String word) {
        for (int i = 0; i < word.length(); i++) {
            check.due("letterAt " + i, x.letterAt(i), word.charAt(i));
        }
        check.due("letterAt -1", x.letterAt(-1), NONE);
        check.due("letterAt behind", x.letterAt(word.length()), NONE);
    }

    private static void wordsLookedAt() {
        check.part("23, 24");
        RoundWalks x = new RoundWalks();
        check.throwsNone("word of none", () -> x.word(0));
        Check.words(x, "acababa");
        check.due("letterAt ahead of any", x.letterAt(0), NONE);
        check.due("word 0", x.word(0), 'a');
        wordIs(x, "ababaca");
        x.word(1);
        wordIs(x, "abacaba");
        x.word(2);
        wordIs(x, "acababa");
        check.throwsNone("word 3", () -> x.word(3));
        check.throwsNone("word -1", () -> x.word(-1));
        wordIs(x, "acababa");
        Check.words(x, "zabz");
        wordIs(x, "acababa");
        check.due("word 0", x.word(0), 'z');
        wordIs(x, "zabz");
        Check.words(x, "zybyxy");
        x.word(0);
        wordIs(x, "zybyxy");
        x.word(1);
        wordIs(x, "zyxyby");
    }

    private static void braid() {
        check.part("25");
        int[][] due = {{1, 1, 1, 1}, {2, 4, 8, 16}, {3, 9, NONE, NONE}, {4, 16, NONE, NONE}};
        for (int k = 1; k <= 4; k++) {
            for (int n = 1; n <= 4; n++) {
                RoundWalks x = new RoundWalks();
                check.due("braid " + k + " " + n, x.braid(k, n), due[k - 1][n - 1]);
                check.due("acts", x.now(7), due[k - 1][n - 1] == NONE ? 0 : 1);
                check.due("points", x.now(0), due[k - 1][n - 1] == NONE ? 0 : due[k - 1][n - 1] / k);
            }
        }
        RoundWalks x = Check.make(2, "ab");
        int[][] wrong = {{0, 1}, {5, 1}, {1, 0}, {1, 5}, {-1, 2}, {2, -1}, {Integer.MAX_VALUE, 2}};
        for (int[] pair : wrong) {
            check.due("braid " + pair[0] + " " + pair[1], x.braid(pair[0], pair[1]), NONE);
        }
        check.due("the net stays", x.now(1), 1);
        x.braid(3, 2);
        check.due("arc 5 from", x.arc(5, 0), 1);
        check.due("arc 5 to", x.arc(5, 1), 2);
        x.braid(2, 4);
        check.due("arc 13 from", x.arc(13, 0), 6);
        check.due("arc 13 to", x.arc(13, 1), 5);
        check.due("undo", x.undo(), 1);
        check.due("undo", x.undo(), 0);
        check.due("points", x.now(0), 2);
    }

    private static void again() {
        check.part("26");
        check.due("none", new RoundWalks().again(), NONE);
        check.due("no arc", Check.make(2, "").again(), NONE);
        check.due("round", Check.make(3, "ab bc ca").again(), 0);
        check.due("a loop", Check.make(3, "bb").again(), 0);
        check.due("one way", Check.make(2, "ab").again(), NONE);
        check.due("not joined", Check.make(4, "ab ba cd dc").again(), NONE);
        check.due("back again", Check.make(2, "ab ab ab ba").again(), 2);
        check.due("round twice", Check.make(3, "ab bc ca ab").again(), 2);
        check.due("far", Check.make(8, "ab ab ab bc cd de ef fg gh ha").again(), 14);
        check.due("by the shorter way", Check.make(4, "ab ab bc cd da ba").again(), 0);
        // a gives 2, b takes 2 and more: b to a by ba at once.
        check.due("a way used twice", Check.make(3, "ab ab ab ab ba bc ca").again(), 2);
    }

    private static void lack() {
        check.part("27");
        check.due("none", new RoundWalks().lack(), NONE);
        check.due("no arc", Check.make(2, "").lack(), NONE);
        check.due("not joined", Check.make(4, "ab ba cd dc").lack(), NONE);
        check.due("round", Check.make(2, "ab ba").lack(), 0);
        check.due("open", Check.make(2, "ab").lack(), 0);
        check.due("two", Check.make(2, "ab ab").lack(), 1);
        check.due("three", Check.make(5, "ab ac ad").lack(), 2);
        check.due("sixteen", Check.make(2, "ab ab ab ab ab ab ab ab ab ab ab ab ab ab ab ab").lack(), 15);
    }

    private static void righted() {
        check.part("28");
        check.due("none", new RoundWalks().righted(0), 0);
        check.due("none", new RoundWalks().righted(1), 0);
        RoundWalks x = Check.make(2, "ab ab");
        check.due("how many", x.righted(0), 1);
        check.due("the least", x.righted(1), 1);
        check.due("another", x.righted(2), NONE);
        check.due("another", x.righted(-1), NONE);
        check.due("odd", Check.make(2, "ab").righted(0), NONE);
        check.due("odd", Check.make(2, "ab").righted(1), NONE);
        check.due("not joined", Check.make(4, "ab ab cd cd").righted(1), 5);
        check.due("loops are let be", Check.make(2, "aa ab bb ab").righted(1), 2);
        // a to c by 2 and 3, or at once by 4: fewer go ahead of less.
        check.due("fewer ahead of less", Check.make(3, "ab bc ac").righted(1), 4);
        check.due("like sets", Check.make(4, "ad dc ab bc").righted(1), 3);
        check.due("like sets, the higher least", Check.make(4, "ab ad dc bc").righted(1), 6);
    }

    private static void addDropTurn() {
        check.part("29, 30, 31");
        RoundWalks x = Check.make(2, "ab");
        check.due("add", x.add(1, 0), 1);
        check.due("add a loop", x.add(1, 1), 2);
        check.due("from", x.arc(1, 0), 1);
        check.due("to", x.arc(1, 1), 0);
        check.due("add 2", x.add(2, 0), NONE);
        check.due("add to 2", x.add(0, 2), NONE);
        check.due("add -1", x.add(-1, 0), NONE);
        check.due("add to -1", x.add(0, -1), NONE);
        check.due("acts", x.now(7), 2);
        check.due("drop 3", x.drop(3), NONE);
        check.due("drop -1", x.drop(-1), NONE);
        check.due("drop 0", x.drop(0), 2);
        check.due("from", x.arc(0, 0), 1);
        check.due("to", x.arc(0, 1), 0);
        check.due("drop 1", x.drop(1), 1);
        check.due("turn 1", x.turn(1), NONE);
        check.due("turn -1", x.turn(-1), NONE);
        check.due("turn 0", x.turn(0), 1);
        check.due("from", x.arc(0, 0), 0);
        check.due("acts", x.now(7), 5);
        check.due("drop 0", x.drop(0), 0);
        check.due("drop of none", x.drop(0), NONE);
        check.due("turn of none", x.turn(0), NONE);
        for (int k = 0; k < 16; k++) {
            check.due("add", x.add(0, 1), k);
        }
        check.due("a 17th", x.add(0, 1), NONE);
        RoundWalks loop = Check.make(1, "aa");
        check.due("turn a loop", loop.turn(0), 0);
        check.due("acts", loop.now(7), 1);
    }

    private static void deeds() {
        check.part("32");
        RoundWalks x = Check.make(3, "ab");
        check.due("0 deeds", x.deeds(0, 1), NONE);
        check.due("61 deeds", x.deeds(61, 1), NONE);
        check.due("-1 deeds", x.deeds(-1, 1), NONE);
        check.due("acts", x.now(7), 0);
        check.due("without points", new RoundWalks().deeds(60, 9), 0);
        for (int seed = -30; seed < 30; seed++) {
            byOne(Check.make(3, "ab bc"), seed);
        }
        int done = x.deeds(60, 77);
        check.due("some done", done > 0, true);
        check.due("one act", x.now(7), 1);
        check.due("undo", x.undo(), 0);
        check.due("arcs", x.now(1), 1);
    }

    /** Deeds are as the acts that the draws tell, one by one. */
    private static void byOne(RoundWalks x, int seed) {
        RoundWalks y = Check.make(3, "ab bc");
        int s = seed;
        int done = 0;
        for (int i = 0; i < 40; i++) {
            s = s * 1103515245 + 12345;
            int act = (s >>> 8) % 4;
            if (act < 2 && y.now(1) > 0) {
                s = s * 1103515245 + 12345;
                int k = (s >>> 8) % y.now(1);
                done += (act == 0 ? y.drop(k) : y.turn(k)) == NONE ? 0 : 1;
            } else if (act >= 2 && y.now(1) < 16) {
                s = s * 1103515245 + 12345;
                int p = (s >>> 8) % 3;
                s = s * 1103515245 + 12345;
                done += y.add(p, (s >>> 8) % 3) == NONE ? 0 : 1;
            }
        }
        check.due("deeds by seed " + seed, x.deeds(40, seed), done);
        check.due("arcs", x.now(1), y.now(1));
        for (int k = 0; k < y.now(1); k++) {
            check.due("from", x.arc(k, 0), y.arc(k, 0));
            check.due("to", x.arc(k, 1), y.arc(k, 1));
        }
    }

    private static void undo() {
        check.part("33");
        RoundWalks x = Check.make(2, "");
        check.due("nothing", x.undo(), NONE);
        for (int k = 1; k <= 10; k++) {
            x.add(0, 1);
            check.due("acts", x.now(7), Math.min(k, 8));
        }
        check.due("deeds not done", x.deeds(0, 5), NONE);
        for (int k = 7; k >= 0; k--) {
            check.due("undo", x.undo(), k);
            check.due("arcs", x.now(1), k + 2);
        }
        check.due("no more", x.undo(), NONE);
        check.due("arcs", x.now(1), 2);
        // Deeds of which none is done must not spoil the oldest of eight kept acts.
        RoundWalks none = new RoundWalks();
        for (int i = 0; i < 9; i++) {
            none.braid(1, 1);
        }
        Check.net(none, "point a;");
        for (int i = 0; i < 16; i++) {
            none.add(0, 0);
        }
        int seed = seedOfAddition();
        check.due("no deed", none.deeds(1, seed), 0);
        for (int k = 7; k >= 0; k--) {
            check.due("undo", none.undo(), k);
            check.due("arcs", none.now(1), k + 8);
        }
        RoundWalks turned = Check.make(3, "ab bc ca");
        turned.drop(1);
        turned.turn(0);
        turned.braid(2, 2);
        turned.deeds(10, 3);
        check.due("acts", turned.now(7), 4);
        turned.undo();
        check.due("the braid", turned.now(1), 4);
        turned.undo();
        check.due("turned", turned.arc(0, 0), 1);
        turned.undo();
        check.due("not turned", turned.arc(0, 0), 0);
        check.due("dropped", turned.arc(1, 0), 2);
        check.due("undo", turned.undo(), 0);
        check.due("not dropped", turned.arc(1, 0), 1);
        check.due("points", turned.now(0), 3);
    }

    private static int seedOfAddition() {
        int seed = 0;
        while (((seed * 1103515245 + 12345) >>> 8) % 4 < 2) {
            seed++;
        }
        return seed;
    }

    private static void images() {
        check.part("34, 35");
        RoundWalks x = Check.make(2, "ab ba");
        check.due("image 2", x.image(2), false);
        check.due("image -1", x.image(-1), false);
        check.due("restore 0", x.restore(0), false);
        check.due("image 0", x.image(0), true);
        check.due("restore 1", x.restore(1), false);
        check.due("restore 2", x.restore(2), false);
        check.due("restore -1", x.restore(-1), false);
        x.walk(0);
        Check.words(x, "abab");
        x.word(0);
        x.braid(2, 3);
        x.image(1);
        Check.net(x, "1");
        x.feed(1, 2, 3, 4, 5);
        x.add(0, 0);
        check.due("restore -1", x.restore(-1), false);
        check.due("acts", x.now(7), 2);
        check.due("restore 0", x.restore(0), true);
        check.due("points", x.now(0), 2);
        check.due("arcs", x.now(1), 2);
        check.due("acts", x.now(7), 0);
        check.due("tape", x.now(8), 20);
        check.due("fault", x.fault(), 1);
        check.due("walkAt", x.walkAt(1), 1);
        check.due("wordRank", x.wordRank(), 0);
        check.due("letterAt", x.letterAt(3), 'b');
        x.add(0, 1);
        check.due("restore 1", x.restore(1), true);
        check.due("arcs", x.now(1), 8);
        check.due("restore 0", x.restore(0), true);
        check.due("arcs", x.now(1), 2);
        x.end(0);
        x.net();
        check.due("an image outlives a net", x.restore(1), true);
        check.due("arcs", x.now(1), 8);
        RoundWalks empty = new RoundWalks();
        check.due("image of none", empty.image(1), true);
        empty.braid(2, 2);
        check.due("restore of none", empty.restore(1), true);
        check.due("points", empty.now(0), 0);
    }

    private static void throwingChangesNothing() {
        check.part("a call that throws changes nothing");
        RoundWalks x = Check.make(2, "ab ba");
        x.add(0, 0);
        x.walk(0);
        Check.words(x, "abab");
        x.word(0);
        x.feed(1, 2, 3, 4, 5);
        long before = picture(x);
        check.throwsNone("arc", () -> x.arc(9, 0));
        check.throwsNone("degree", () -> x.degree(9, 0));
        check.throwsNone("tree", () -> x.tree(0, 99));
        check.throwsNone("walk", () -> x.walk(99));
        check.throwsNone("word", () -> x.word(99));
        check.due("picture", picture(x), before);
    }

    private static long picture(RoundWalks x) {
        long sum = 0;
        for (int what = 0; what < 9; what++) {
            sum = sum * 31 + x.now(what);
        }
        for (int i = 0; i < 17; i++) {
            sum = sum * 31 + x.walkAt(i);
            sum = sum * 31 + x.letterAt(i);
        }
        return sum * 31 + x.lasts() * 7 + x.wordRank() * 5 + x.fault();
    }
}
