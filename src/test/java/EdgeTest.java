/** The edges that the document names, sentence by sentence: too small, too large, empty, full, wrapping, refused. */
public final class EdgeTest {
    private static final Check check = new Check();
    private static final int NONE = RoundWalks.NONE;
    private static final int LOW = Integer.MIN_VALUE;
    private static final int HIGH = Integer.MAX_VALUE;
    private static final String FULL = "ab bc cd de ef fg gh ha ac ce eg ga bd df fh hb";

    public static void main(String[] args) {
        terms();
        theTape();
        theNet();
        treesAndWalks();
        words();
        needs();
        acts();
        check.close();
    }

    // ---- Terms: the text

    private static void terms() {
        eachByteBehindAWord();
        eachByteAlone();
        eachByteAsAName();
        wordsOfEachLength();
        namesThatAreNearlyOne();
        namesNearTheTwoWords();
        eachPrefixOfANet();
        firstAlongTheText();
        leastOfOneToken();
        eightPoints();
        sixteenArcs();
        fiveHundredBytes();
        tokensAcrossTheEnd();
        theCallBeforeItRests();
    }

    private static void told(String text, int answer, int kind) {
        RoundWalks x = new RoundWalks();
        check.due("net of " + shown(text), Check.net(x, text), answer);
        check.due("fault of " + shown(text), x.fault(), kind);
        check.due("tape behind " + shown(text), x.now(8), 0);
    }

    private static void fault(String text, int place, int kind) {
        told(text, -1 - place, kind);
    }

    private static String shown(String text) {
        StringBuilder shown = new StringBuilder();
        for (char sign : text.toCharArray()) {
            shown.append(sign >= 32 && sign < 127 ? String.valueOf(sign) : "<" + (int) sign + ">");
        }
        return shown.toString();
    }

    private static boolean isBlank(int sign) {
        return sign == 32 || sign == 10;
    }

    private static boolean isLetter(int sign) {
        return sign >= 97 && sign <= 122;
    }

    private static void eachByteBehindAWord() {
        check.part("blanks (32, 10) between them or not, small letters, the sign ;");
        for (int sign = 0; sign < 256; sign++) {
            String text = "point a" + (char) sign + ";";
            if (isBlank(sign) || isLetter(sign)) {
                told(text, 1, 0);
            } else {
                fault(text, sign == ';' ? 8 : 7, 1);
            }
        }
    }

    private static void eachByteAlone() {
        check.part("no TOKEN, or one that can't come");
        for (int sign = 0; sign < 256; sign++) {
            String text = String.valueOf((char) sign);
            if (isBlank(sign)) {
                told(text, 0, 0);
            } else {
                fault(text, 0, 1);
            }
        }
    }

    private static void eachByteAsAName() {
        check.part("a NAME of one byte");
        for (int sign = 0; sign < 256; sign++) {
            String text = "point " + (char) sign;
            fault(text, isBlank(sign) || isLetter(sign) ? 7 : 6, 1);
            RoundWalks x = Check.make(1, "");
            int answer = Check.net(x, "point m;arc " + (char) sign + " m;");
            if (sign == 'm') {
                check.due("arc m m", answer, 2);
            } else if (isLetter(sign)) {
                check.due("arc " + sign, answer, -1 - 12);
                check.due("not told", x.fault(), 2);
            } else if (isBlank(sign)) {
                check.due("a POINT is left out", answer, -1 - 15);
                check.due("a POINT is left out", x.fault(), 1);
            } else {
                check.due("arc " + sign, answer, -1 - 12);
                check.due("no TOKEN", x.fault(), 1);
            }
        }
    }

    private static void wordsOfEachLength() {
        check.part("WORDS: small letters, 1 to 7");
        for (int length = 1; length <= 30; length++) {
            String name = "q".repeat(length);
            String text = "point " + name + ";arc " + name + " " + name + ";";
            if (length <= 7) {
                told(text, 2, 0);
            } else {
                fault(text, 6, 1);
                fault("point q;arc " + name + " q;", 12, 1);
                fault("point q;arc q " + name + ";", 14, 1);
                fault(name, 0, 1);
            }
        }
        check.part("a WORD goes on as long as small letters do");
        fault("pointa;", 0, 1);
        fault("pointarc;", 0, 1);
        fault("point a;arca a;", 8, 1);
        fault("point a;arc aa;", 12, 2);
        fault("point a;point\nb;pointc;", 16, 1);
    }

    private static void namesThatAreNearlyOne() {
        check.part("NAMES that are unlike in one letter, or by length");
        told("point a;point aa;point aaa;point aaaaaa;point aaaaaaa;point baaaaaa;point aaaaaab;point z;", 8, 0);
        RoundWalks x = new RoundWalks();
        Check.net(x, "point aaaaaaa;point aaaaaab;point aaaaaa;point zzzzzzz;arc aaaaaab zzzzzzz;arc aaaaaa aaaaaaa;");
        check.due("from", x.arc(0, 0), 1);
        check.due("to", x.arc(0, 1), 3);
        check.due("from", x.arc(1, 0), 2);
        check.due("to", x.arc(1, 1), 0);
        fault("point zzzzzzz;point zzzzzzy;point zzzzzzz;", 34, 2);
    }

    private static void namesNearTheTwoWords() {
        check.part("a WORD, none of these two");
        told("point poin;point points;point pointe;point ar;point arcs;point oint;point rc;point tpoin;", 8, 0);
        fault("point point;", 6, 1);
        fault("point arc;", 6, 1);
        fault("point a;arc point a;", 12, 1);
        fault("point a;arc a point;", 14, 1);
        fault("point a;arc arc a;", 12, 1);
        fault("point a;arc a arc;", 14, 1);
        fault("points a;", 0, 1);
        fault("ar a;", 0, 1);
    }

    private static void eachPrefixOfANet() {
        check.part("the end: how many bytes there are");
        String text = "point ab;arc ab ab;";
        // The answers of net() for the first 0, 1, .. bytes, and the kinds.
        int[] answers = {0, -1, -1, -1, -1, -6, -7, -8, -9, 1, -10, -10, -13, -14, -14, -16, -17, -17, -19, 2};
        int[] kinds = {0, 1, 1, 1, 1, 1, 1, 1, 1, 0, 1, 1, 1, 1, 2, 1, 1, 2, 1, 0};
        for (int length = 0; length <= text.length(); length++) {
            told(text.substring(0, length), answers[length], kinds[length]);
        }
        fault("point ab;arc ab ab  \n ", 22, 1);
        fault("point \n", 7, 1);
        told(" \n point ab \n;\n ", 1, 0);
        told("", 0, 0);
    }

    private static void firstAlongTheText() {
        check.part("the first along the text");
        String[] rows = {"point 1;", "point b;", "arc a b;"};
        int[] places = {6, 6, 6};
        int[] kinds = {1, 2, 2};
        String good = "point b;";
        for (int i = 0; i < rows.length; i++) {
            for (String behind : rows) {
                fault(good + rows[i] + behind, 8 + (i == 2 ? 4 : places[i]), kinds[i]);
            }
        }
        fault("point b;arc a 1;", 12, 2);
        fault("point b;arc 1 a;", 12, 1);
        fault("point b;arc b a 1", 14, 2);
        fault("point b;point b 1", 14, 2);
    }

    private static void leastOfOneToken() {
        check.part("of one TOKEN the least");
        // None of these is told, and none can come.
        fault("arc point arc;", 4, 1);
        fault("arc abcdefgh a;", 4, 1);
        fault("arc arc a;", 4, 1);
        fault("arc a a;", 4, 2);
        check.part("a NAME told twice, or not told");
        fault("point a;point b;point a;", 22, 2);
        fault("arc a a;point a;", 4, 2);
        fault("point a;arc a b;point b;", 14, 2);
        told("point a;arc a a;point b;arc b a;", 4, 0);
    }

    private static void eightPoints() {
        check.part("8 POINTS at most");
        String eight = Check.text(8, "");
        told(eight, 8, 0);
        told(eight + "arc h a;", 9, 0);
        fault(eight + "point i;", 64, 3);
        fault(eight + "arc h a;\n point i;", 74, 3);
        fault(eight + "point h;", 64, 3);
        fault(eight + "point", 64, 3);
        fault(eight + "point arc;", 64, 3);
        fault(Check.text(7, "") + "point a;point i;", 62, 2);
        check.part("numbered from 0 as told");
        RoundWalks x = new RoundWalks();
        Check.net(x, "point h;point g;point a;arc a h;point b;arc b g;");
        check.due("arc 0 from", x.arc(0, 0), 2);
        check.due("arc 0 to", x.arc(0, 1), 0);
        check.due("arc 1 from", x.arc(1, 0), 3);
        check.due("arc 1 to", x.arc(1, 1), 1);
    }

    private static void sixteenArcs() {
        check.part("16 ARCS at most");
        String sixteen = Check.text(8, FULL);
        RoundWalks x = new RoundWalks();
        check.due("rows", Check.net(x, sixteen), 24);
        check.due("arcs", x.now(1), 16);
        check.due("arc 15 from", x.arc(15, 0), 7);
        check.due("arc 15 to", x.arc(15, 1), 1);
        int length = sixteen.length();
        fault(sixteen + "arc a b;", length, 3);
        fault(sixteen + "arc q b;", length, 3);
        fault(sixteen + "  arc a", length + 2, 3);
        fault(sixteen + "point a;", length, 3);
        fault(sixteen + ";", length, 1);
        String loops = Check.text(1, "aa aa aa aa aa aa aa aa aa aa aa aa aa aa aa aa");
        told(loops + "point b;", 18, 0);
        fault(loops + "point b;arc b b;", loops.length() + 8, 3);
        check.part("they may be one, and told again");
        check.due("loops", Check.make(1, "aa aa aa").degree(0, 0), 3);
        check.due("told again", Check.make(2, "ab ab ab").degree(0, 0), 3);
    }

    private static String filled(String head, int length, String tail) {
        return head + " ".repeat(length - head.length()) + tail;
    }

    private static void fiveHundredBytes() {
        check.part("a text of at most 500 bytes");
        told(filled("point a;", 492, "point b;"), 2, 0);
        told(filled("point a;", 500, ""), 1, 0);
        told(filled("", 500, ""), 0, 0);
        for (int more = 501; more <= 540; more++) {
            fault(filled("point a;", more, ""), 500, 1);
        }
        fault(filled("point a;", 493, "point b;"), 500, 1);
        fault(filled("point a;point b", 499, ""), 499, 1);
        fault(filled("point a;point b", 500, ""), 500, 1);
        fault(filled("point a;point b", 501, ";"), 500, 1);
        fault(filled("point a;point b", 500, ";"), 500, 1);
        told(filled("point a;point b", 499, ";"), 2, 0);
        check.part("500, if there are more and no FAULT is ahead");
        fault(filled("point a;", 499, "1 "), 499, 1);
        fault(filled("point a;", 500, "1 "), 500, 1);
        fault(filled("point a;;", 540, ""), 8, 1);
        fault(filled("point a;point a;", 520, "1"), 14, 2);
        fault(filled(Check.text(8, "") + "point i;", 540, ""), 64, 3);
        fault(filled(Check.text(8, ""), 499, "point i;"), 499, 3);
        fault(filled(Check.text(8, ""), 500, "point i;"), 500, 1);
    }

    private static void tokensAcrossTheEnd() {
        check.part("TOKENS that begin ahead of it are read whole");
        fault(filled("point a;point", 499, "abcdefg"), 500, 1);
        fault(filled("point a;point", 499, "abcdefgh"), 499, 1);
        fault(filled("point a;point", 494, "abcdefg"), 500, 1);
        fault(filled("point ab;point", 499, "ab"), 499, 2);
        fault(filled("point ab;point", 499, "ab;"), 499, 2);
        fault(filled("point a;point", 499, "ab;"), 500, 1);
        fault(filled("point ab;arc ab", 499, "ab;"), 500, 1);
        fault(filled("point a;arc a", 499, "ab;"), 499, 2);
        fault(filled("point a;", 499, "arc a a;"), 500, 1);
        fault(filled("point a;", 499, "point b;"), 500, 1);
        fault(filled("point a;", 496, "pointing"), 496, 1);
        fault(filled("point a;", 499, "pointing"), 499, 1);
        fault(filled("point a;", 500, "pointing"), 500, 1);
        fault(filled("point a;point", 499, "arc;"), 499, 1);
        fault(filled("point a;point", 500, "arc;"), 500, 1);
        fault(filled("point a;point", 499, "q".repeat(41)), 499, 1);
    }

    private static void theCallBeforeItRests() {
        check.part("at most 512 calls");
        RoundWalks x = new RoundWalks();
        x.braid(2, 2);
        for (int call = 2; call <= 511; call++) {
            check.due("call " + call, call % 2 == 0 ? x.add(0, 1) : x.undo(), call % 2 == 0 ? 4 : 1);
        }
        check.due("call 512", x.walks(), 1);
    }

    // ---- Promises 1 to 5

    private static void theTape() {
        newObject();
        feedOfTwenty();
        feedOverTheRoom();
        endOfTheTape();
        theTapeIsEmptyThen();
        theNetStays();
        latestFault();
    }

    private static void newObject() {
        check.part("1: a NET without POINTS; an empty tape");
        RoundWalks x = new RoundWalks();
        int[] due = {0, 0, 0, 1, 0, 0, 1, 0, 0};
        for (int what = 0; what < 9; what++) {
            check.due("now " + what, x.now(what), due[what]);
        }
        check.due("fault", x.fault(), 0);
        check.due("kind", x.kind(), 0);
        check.due("ends 0", x.ends(0), NONE);
        check.due("ends 1", x.ends(1), NONE);
        check.due("trees 0", x.trees(0), NONE);
        check.due("walks", x.walks(), 0);
        check.due("lasts", x.lasts(), NONE);
        check.due("walkAt 0", x.walkAt(0), NONE);
        check.due("wordRank", x.wordRank(), NONE);
        check.due("letterAt 0", x.letterAt(0), NONE);
        check.due("again", x.again(), NONE);
        check.due("lack", x.lack(), NONE);
        check.due("righted 0", x.righted(0), 0);
        check.due("righted 1", x.righted(1), 0);
        check.due("add", x.add(0, 0), NONE);
        check.due("drop", x.drop(0), NONE);
        check.due("turn", x.turn(0), NONE);
        check.due("undo", x.undo(), NONE);
        check.due("restore 0", x.restore(0), false);
        check.due("restore 1", x.restore(1), false);
        check.due("end 0", x.end(0), true);
        check.due("end 1", x.end(1), false);
        check.throwsNone("arc", () -> x.arc(0, 0));
        check.throwsNone("degree", () -> x.degree(0, 0));
        check.throwsNone("tree", () -> x.tree(0, 0));
        check.throwsNone("walk", () -> x.walk(0));
        check.throwsNone("word", () -> x.word(0));
        check.due("no object changes another", Check.make(2, "ab").now(1) + new RoundWalks().now(1), 1);
    }

    private static void feedOfTwenty() {
        check.part("2: of each number the highest first");
        RoundWalks x = new RoundWalks();
        x.feed(0x61626364, 0x65666768, 0x67666564, 0x63626162, 0x637a7a7a);
        x.end(17);
        check.due("words", x.words(), 4);
        x.word(x.wordRank());
        String due = "abcdefghgfedcbabc";
        for (int i = 0; i < 17; i++) {
            check.due("letter " + i, x.letterAt(i), due.charAt(i));
        }
        check.part("2: numbers below 0");
        x.feed(0x80ffff7f, -1, LOW, HIGH, 0);
        check.due("bytes", x.now(8), 20);
        check.due("net", x.net(), -1);
        // Bytes behind the first keep their places whatever the first one's highest bit is.
        x.feed(0x20202020, 0x202020e1, 0, 0, 0);
        check.due("net", x.net(), -1 - 7);
        x.feed(0x0a0a0a0a, 0x0a8a0a0a, 0, 0, 0);
        check.due("net", x.net(), -1 - 5);
    }

    private static void feedOverTheRoom() {
        check.part("2: NONE, and none come, if it would have more than 540");
        RoundWalks x = new RoundWalks();
        int abab = 0x61626162;
        for (int i = 1; i <= 27; i++) {
            check.due("feed", x.feed(abab, abab, abab, abab, abab), 20L * i);
        }
        for (int size = 540; size > 520; size--) {
            x.end(size);
            check.due("feed at " + size, x.feed(0, 0, 0, 0, 0), NONE);
            check.due("size", x.now(8), size);
        }
        x.end(520);
        check.due("feed at 520", x.feed(0, 0, 0, 0, 0), 540);
        check.due("feed at 540", x.feed(0, 0, 0, 0, 0), NONE);
        x.end(5);
        check.due("none came", x.words(), 1);
        x.word(0);
        check.due("first letters", x.letterAt(4), 'a');
        for (int i = 0; i < 27; i++) {
            x.feed(0x20202020, 0x20202020, 0x20202020, 0x20202020, 0x20202020);
        }
        check.due("the tape is empty behind words(): 27 feeds fit again", x.now(8), 540);
    }

    private static void endOfTheTape() {
        check.part("3: its first n bytes alone");
        RoundWalks x = new RoundWalks();
        x.feed(0x61620000, 0, 0, 0, 0);
        check.due("end 20", x.end(20), true);
        check.due("end 21", x.end(21), false);
        check.due("end -1", x.end(-1), false);
        check.due("end LOW", x.end(LOW), false);
        check.due("end HIGH", x.end(HIGH), false);
        check.due("the tape stays", x.now(8), 20);
        check.due("end 2", x.end(2), true);
        check.due("end 3", x.end(3), false);
        check.due("bytes", x.now(8), 2);
        check.due("bytes come behind the second", x.feed(0x61626162, 0, 0, 0, 0), 22);
        x.end(6);
        check.due("ababab", x.words(), 1);
        x.word(0);
        check.due("fifth", x.letterAt(4), 'a');
        check.due("end 0 of none", x.end(0), true);
        check.due("end 1 of none", x.end(1), false);
        check.due("end -1 of none", x.end(-1), false);
    }

    private static void theTapeIsEmptyThen() {
        check.part("4, 17, 21: the tape is empty then, whatever comes");
        RoundWalks x = Check.make(1, "aa");
        x.feed(0, 0, 0, 0, 0);
        x.net();
        check.due("net with a fault", x.now(8), 0);
        x.feed(0, 0, 0, 0, 0);
        x.rank();
        check.due("rank of none", x.now(8), 0);
        x.feed(0, 0, 0, 0, 0);
        x.end(1);
        check.due("rank", x.rank(), 0);
        check.due("rank of one", x.now(8), 0);
        x.feed(0, 0, 0, 0, 0);
        x.words();
        check.due("words of none", x.now(8), 0);
        x.feed(0x61616161, 0, 0, 0, 0);
        x.end(4);
        check.due("words", x.words(), 1);
        check.due("words of one", x.now(8), 0);
        x.drop(0);
        x.feed(0, 0, 0, 0, 0);
        x.rank();
        check.due("rank without WALKS", x.now(8), 0);
        x.feed(0x20202020, 0x20202020, 0x20202020, 0x20202020, 0x20202020);
        check.due("net of blanks", x.net(), 0);
        check.due("net", x.now(8), 0);
    }

    private static void theNetStays() {
        check.part("4: a FAULT: it stays");
        RoundWalks x = Check.make(3, "ab bc");
        x.turn(1);
        check.due("a FAULT in the last byte", Check.net(x, Check.text(2, "ab ba ab") + "1"), -1 - 40);
        check.due("points", x.now(0), 3);
        check.due("arcs", x.now(1), 2);
        check.due("from", x.arc(1, 0), 2);
        check.due("acts", x.now(7), 1);
        check.due("too long", Check.net(x, " ".repeat(501)), -1 - 500);
        check.due("points", x.now(0), 3);
        check.due("undo", x.undo(), 0);
        check.due("from", x.arc(1, 0), 1);
        check.part("a new NET: nothing can be undone");
        x.turn(1);
        check.due("the same NET", Check.net(x, Check.text(3, "ab bc")), 5);
        check.due("acts", x.now(7), 0);
        check.due("undo", x.undo(), NONE);
        x.add(0, 0);
        check.due("no NET at all", Check.net(x, ""), 0);
        check.due("points", x.now(0), 0);
        check.due("arcs", x.now(1), 0);
        check.due("undo", x.undo(), NONE);
    }

    private static void latestFault() {
        check.part("5: of the latest net(); 0 without one and ahead of any");
        RoundWalks x = new RoundWalks();
        check.due("ahead of any", x.fault(), 0);
        x.feed(0, 0, 0, 0, 0);
        x.words();
        check.due("words are no net()", x.fault(), 0);
        Check.net(x, Check.text(8, "") + "point i;");
        check.due("3", x.fault(), 3);
        x.feed(0, 0, 0, 0, 0);
        x.rank();
        x.braid(2, 2);
        x.restore(0);
        check.due("stays", x.fault(), 3);
        Check.net(x, "arc a a;");
        check.due("2", x.fault(), 2);
        Check.net(x, "arc");
        check.due("1", x.fault(), 1);
        Check.net(x, "");
        check.due("0", x.fault(), 0);
    }

    // ---- Promises 6 to 10

    private static void theNet() {
        whatOfNow();
        loopsCountInBoth();
        joinedAndStrong();
        arcsAndDegrees();
        roundOrOpen();
        whereWalksAre();
    }

    private static void whatOfNow() {
        check.part("6: NONE for another what");
        RoundWalks x = Check.make(8, FULL);
        for (int what : new int[] {-1, 9, 10, LOW, HIGH, 32, 1 << 16}) {
            check.due("now " + what, x.now(what), NONE);
        }
        check.part("6: sets as bits, of all POINTS");
        check.due("used", x.now(2), 255);
        RoundWalks star = Check.make(8, "ha hb hc hd he hf hg");
        check.due("used", star.now(2), 255);
        check.due("out above in", star.now(4), 128);
        check.due("in above out", star.now(5), 127);
        RoundWalks alone = Check.make(8, "hh");
        check.due("used", alone.now(2), 128);
        check.due("out above in", alone.now(4), 0);
        check.due("in above out", alone.now(5), 0);
        check.part("6: POINTS without ARCS");
        RoundWalks none = Check.make(8, "");
        int[] due = {8, 0, 0, 1, 0, 0, 1, 0, 0};
        for (int what = 0; what < 9; what++) {
            check.due("now " + what, none.now(what), due[what]);
        }
        check.part("6: acts that can be undone, bytes of the tape: empty, full");
        for (int k = 1; k <= 12; k++) {
            none.add(0, 1);
            check.due("acts", none.now(7), Math.min(k, 8));
        }
        for (int i = 0; i < 28; i++) {
            none.feed(0, 0, 0, 0, 0);
        }
        check.due("bytes", none.now(8), 540);
    }

    private static void loopsCountInBoth() {
        check.part("an ARC from it to itself counts in both");
        RoundWalks x = Check.make(2, "aa");
        check.due("out", x.degree(0, 0), 1);
        check.due("in", x.degree(0, 1), 1);
        check.due("used", x.now(2), 1);
        RoundWalks full = Check.make(1, "aa aa aa aa aa aa aa aa aa aa aa aa aa aa aa aa");
        check.due("out", full.degree(0, 0), 16);
        check.due("in", full.degree(0, 1), 16);
    }

    private static void joined(int points, String arcs, int joined, int strong) {
        RoundWalks x = Check.make(points, arcs);
        check.due("joined: " + arcs, x.now(3), joined);
        check.due("strong: " + arcs, x.now(6), strong);
    }

    private static void joinedAndStrong() {
        check.part("6: JOINED; from each USED POINT to each other one");
        joined(0, "", 1, 1);
        joined(8, "", 1, 1);
        joined(8, "hh", 1, 1);
        joined(2, "aa bb", 0, 0);
        joined(8, "ab", 1, 0);
        joined(8, "hg gh", 1, 1);
        joined(3, "ab cb", 1, 0);
        joined(3, "ab bc", 1, 0);
        joined(3, "ab bc ca", 1, 1);
        joined(3, "ab ba bc", 1, 0);
        joined(3, "ab ba cb", 1, 0);
        joined(4, "ab ba cd dc", 0, 0);
        joined(4, "ab ba cd dc bc", 1, 0);
        joined(4, "ab ba cd dc bc da", 1, 1);
        // A chain that runs against the order of its ARCS, the longest there is.
        joined(8, "gh fg ef de cd bc ab", 1, 0);
        joined(8, "gh fg ef de cd bc ab ha", 1, 1);
        joined(8, "hg gf fe ed dc cb ba ah", 1, 1);
        joined(8, "ab cb cd ed ef gf gh", 1, 0);
        joined(8, "ba ab cb bc dc cd ed de fe ef gf fg hg gh", 1, 1);
        joined(8, "ba ab cb bc dc cd ed de fe ef gf fg hg hh", 1, 0);
        joined(8, "ab bc cd da ef fg gh he", 0, 0);
    }

    private static void arcsAndDegrees() {
        check.part("7, 8: no such ones");
        RoundWalks x = Check.make(8, FULL);
        check.due("arc 0", x.arc(0, 0), 0);
        check.due("arc 15", x.arc(15, 1), 1);
        check.due("degree 7", x.degree(7, 0), 2);
        for (int wrong : new int[] {-1, 16, 17, 32, LOW, HIGH}) {
            check.throwsNone("arc " + wrong, () -> x.arc(wrong, 0));
            check.throwsNone("arc 0 what " + wrong, () -> x.arc(0, wrong));
            check.throwsNone("degree " + wrong, () -> x.degree(wrong, 0));
            check.throwsNone("degree 0 what " + wrong, () -> x.degree(0, wrong));
        }
        check.throwsNone("arc 0 what 2", () -> x.arc(0, 2));
        check.throwsNone("degree 0 what 2", () -> x.degree(0, 2));
        check.throwsNone("degree 8", () -> x.degree(8, 0));
        x.drop(15);
        check.throwsNone("arc 15 behind a drop", () -> x.arc(15, 0));
        check.due("arc 14", x.arc(14, 0), 5);
        RoundWalks none = Check.make(1, "");
        check.throwsNone("no ARC", () -> none.arc(0, 0));
        check.due("out without ARCS", none.degree(0, 0), 0);
        check.due("in without ARCS", none.degree(0, 1), 0);
        check.throwsNone("no second POINT", () -> none.degree(1, 0));
    }

    private static void kind(int points, String arcs, int kind, int begin, int end) {
        RoundWalks x = Check.make(points, arcs);
        check.due("kind: " + arcs, x.kind(), kind);
        check.due("begin: " + arcs, x.ends(0), begin);
        check.due("end: " + arcs, x.ends(1), end);
        check.due("walks: " + arcs, x.walks() > 0, kind > 0);
    }

    private static void roundOrOpen() {
        check.part("9, 10: ROUND, OPEN, neither");
        kind(1, "", 0, NONE, NONE);
        kind(8, "", 0, NONE, NONE);
        kind(8, "hh", 1, 7, 7);
        kind(8, "ab", 2, 0, 1);
        kind(8, "ba", 2, 1, 0);
        kind(8, "ab ba", 1, 0, 0);
        kind(8, "ba ab", 1, 1, 1);
        check.part("9: not JOINED");
        kind(2, "aa bb", 0, NONE, NONE);
        kind(3, "ab cc", 0, NONE, NONE);
        kind(5, "ab cd dc", 0, NONE, NONE);
        check.part("9: one more than IN of just one POINT, and the other way round");
        kind(2, "ab ab", 0, NONE, NONE);
        kind(3, "ab ac", 0, NONE, NONE);
        kind(3, "ba ca", 0, NONE, NONE);
        kind(4, "ab cb cd", 0, NONE, NONE);
        kind(4, "ab ac bd cd", 0, NONE, NONE);
        kind(3, "ab ab bc ca bc", 2, 0, 2);
        kind(8, FULL, 1, 0, 0);
        kind(8, FULL.substring(3), 2, 1, 0);
    }

    private static void whereWalksAre() {
        check.part("10: another what");
        RoundWalks x = Check.make(2, "ab");
        for (int what : new int[] {-1, 2, LOW, HIGH}) {
            check.due("ends " + what, x.ends(what), NONE);
        }
    }

    // ---- Promises 11 to 20

    private static void treesAndWalks() {
        treesToNone();
        treesOfNumbers();
        howManyWalks();
        walkOfRank();
        walkAheadOfAny();
        walkOutlivesTheNet();
        lastsOfAWalk();
        rankOfNone();
        rankRefusedLooksAtNone();
        byOfNone();
        drawnOfNone();
        drawnWraps();
        drawnRefused();
    }

    private static void treesToNone() {
        check.part("11: not USED, no such one");
        RoundWalks x = Check.make(4, "ab");
        for (int r : new int[] {2, 3, 4, 8, -1, 32, 33, LOW, HIGH}) {
            check.due("trees " + r, x.trees(r), NONE);
            check.throwsNone("tree " + r, () -> x.tree(r, 0));
        }
        check.due("none leads there", x.trees(0), 0);
        check.throwsNone("none leads there", () -> x.tree(0, 0));
        check.due("one", x.trees(1), 1);
        check.due("not JOINED", Check.make(2, "aa bb").trees(0), 0);
        check.due("one USED POINT", Check.make(8, "hh hh").trees(7), 1);
        check.due("its TREE", Check.make(8, "hh hh").tree(7, 0), 0);
    }

    private static void treesOfNumbers() {
        check.part("12: the first, the last, none such");
        RoundWalks x = Check.make(8, "ba ba ca ca da da ea ea fa fa ga ga ha ha aa aa");
        check.due("how many", x.trees(0), 128);
        check.due("0", x.tree(0, 0), 0x1555);
        check.due("127", x.tree(0, 127), 0x2aaa);
        for (int k = 0; k < 128; k++) {
            // Each sign of k, from the lowest up, tells the ARC of one POINT.
            int set = 0;
            for (int j = 0; j < 7; j++) {
                set |= 1 << 2 * j + (k >> j & 1);
            }
            check.due("in order, by numbers: " + k, x.tree(0, k), set);
        }
        RoundWalks mixed = Check.make(4, "ba ca da ba ca da");
        for (int k = 0; k < 8; k++) {
            int set = ((k & 1) == 0 ? 1 : 8) + ((k & 2) == 0 ? 2 : 16) + ((k & 4) == 0 ? 4 : 32);
            check.due("in order, ARCS by turns: " + k, mixed.tree(0, k), set);
        }
        RoundWalks around = Check.make(4, "ba ca da ca da ba");
        for (int k = 0; k < 8; k++) {
            int set = ((k & 1) == 0 ? 2 : 8) + ((k & 2) == 0 ? 4 : 16) + ((k & 4) == 0 ? 1 : 32);
            check.due("in order, ARCS around others: " + k, around.tree(0, k), set);
        }
        for (int k : new int[] {128, 129, -1, LOW, HIGH}) {
            check.throwsNone("tree " + k, () -> x.tree(0, k));
        }
        RoundWalks high = Check.make(2, "aa aa aa aa aa aa aa aa aa aa aa aa aa aa ba ba");
        check.due("ARC 15", high.tree(0, 1), 1 << 15);
    }

    private static void howManyWalks() {
        check.part("13: none, one, most");
        check.due("one ARC", Check.make(1, "aa").walks(), 1);
        check.due("one ARC, OPEN", Check.make(2, "ab").walks(), 1);
        check.due("a ring", Check.make(8, "ab bc cd de ef fg gh ha").walks(), 1);
        String fifteen = "aa aa aa aa aa aa aa aa aa aa aa aa aa aa aa ";
        check.due("ROUND", Check.make(1, fifteen + "aa").walks(), 1307674368000L);
        check.due("OPEN, loops at its begin", Check.make(2, fifteen + "ab").walks(), 1307674368000L);
        check.due("OPEN, loops at its end", Check.make(2, fifteen + "ba").walks(), 1307674368000L);
        check.due("to and fro", Check.make(2, "ab ba ab ba ab ba ab ba ab ba ab ba ab ba ab ba").walks(), 40320L * 5040L);
        check.due("to and fro, OPEN", Check.make(2, "ab ba ab ba ab ba ab ba ab ba ab ba ab ba ab").walks(), 40320L * 5040L);
    }

    private static void walkOfRank() {
        check.part("14: none such");
        RoundWalks x = Check.make(1, "aa aa aa aa");
        check.due("first", x.walk(0), 3);
        check.due("last", x.walk(5), 1);
        long[] wrong = {6, 7, -1, Long.MIN_VALUE, Long.MAX_VALUE, 1L << 32, (1L << 32) + 5, -(1L << 32)};
        for (long rank : wrong) {
            check.throwsNone("walk " + rank, () -> x.walk(rank));
            check.due("the last one is looked at still", x.walkAt(3), 1);
        }
        RoundWalks none = Check.make(2, "ab ab");
        check.throwsNone("no WALKS", () -> none.walk(0));
        RoundWalks most = Check.make(1, "aa aa aa aa aa aa aa aa aa aa aa aa aa aa aa aa");
        check.due("last of most", most.walk(1307674367999L), 1);
        for (int i = 1; i < 16; i++) {
            check.due("walkAt " + i, most.walkAt(i), 16 - i);
        }
        check.throwsNone("behind the last", () -> most.walk(1307674368000L));
    }

    private static void walkAheadOfAny() {
        check.part("15, 16: ahead of any; none such");
        RoundWalks x = Check.make(2, "ab ba");
        check.due("ahead", x.walkAt(0), NONE);
        check.due("ahead", x.lasts(), NONE);
        check.due("first() looks at none", x.first(2), 0);
        check.due("by() looks at none", x.by(2), 1);
        check.due("ahead", x.walkAt(0), NONE);
        check.due("ahead", x.lasts(), NONE);
        x.walk(0);
        check.due("0", x.walkAt(0), 0);
        check.due("1", x.walkAt(1), 1);
        for (int i : new int[] {-1, 2, 3, 15, 16, 17, LOW, HIGH}) {
            check.due("walkAt " + i, x.walkAt(i), NONE);
        }
    }

    private static void walkOutlivesTheNet() {
        check.part("15, 16: the one looked at last stays, whatever becomes of the NET");
        RoundWalks x = Check.make(3, "ab bc ca");
        x.walk(0);
        x.drop(2);
        check.due("behind a drop", x.walkAt(2), 2);
        check.due("behind a drop", x.lasts(), 6);
        Check.net(x, "");
        check.due("behind a net", x.walkAt(2), 2);
        x.braid(2, 3);
        check.due("behind a braid", x.walkAt(3), NONE);
        x.image(0);
        x.restore(0);
        check.due("behind a restore", x.lasts(), 6);
        check.due("a shorter one", x.walk(1) >= 0, true);
        x.braid(1, 1);
        x.walk(0);
        check.due("0", x.walkAt(0), 0);
        check.due("of the longer one nothing is left", x.walkAt(1), NONE);
        check.due("LASTS of one POINT", x.lasts(), 0);
    }

    private static void lastsOfAWalk() {
        check.part("16: of each USED POINT but that at which it ends");
        RoundWalks x = Check.make(8, "ab bc cd de ef fg gh ha");
        x.walk(0);
        check.due("a ring", x.lasts(), 254);
        RoundWalks open = Check.make(8, "ab bc cd de ef fg gh");
        open.walk(0);
        check.due("OPEN: not of where it ends", open.lasts(), 127);
        RoundWalks loop = Check.make(2, "ab bb bb");
        loop.walk(1);
        check.due("loops at the end", loop.lasts(), 1);
        RoundWalks begin = Check.make(2, "aa aa ab");
        begin.walk(1);
        check.due("loops at the begin", begin.lasts(), 4);
        RoundWalks high = Check.make(2, "aa aa aa aa aa aa aa aa aa aa aa aa aa aa ab ba");
        high.walk(0);
        check.due("ARC 15", high.lasts(), 1 << 15);
        check.part("16: POINTS that are not USED, though they were");
        Check.net(x, Check.text(8, "gh hg"));
        x.walk(0);
        check.due("of h alone", x.lasts(), 2);
        Check.net(x, Check.text(8, "hg"));
        x.walk(0);
        check.due("of h alone", x.lasts(), 1);
    }

    private static void rankOfNone() {
        check.part("17: it is none");
        check.due("empty tape, no NET", Check.rank(new RoundWalks()), NONE);
        check.due("empty tape, no ARCS", Check.rank(Check.make(3, "")), NONE);
        RoundWalks x = Check.make(3, "ab ba ac ca");
        check.due("empty tape", Check.rank(x), NONE);
        check.due("one too few", Check.rank(x, 0, 1, 2), NONE);
        check.due("one too many", Check.rank(x, 0, 1, 2, 3, 0), NONE);
        check.due("no such ARC", Check.rank(x, 0, 1, 2, 4), NONE);
        check.due("no such ARC, a high byte", Check.rank(x, 0, 1, 2, 128 + 3), NONE);
        check.due("no such ARC first", Check.rank(x, 255, 1, 2, 3), NONE);
        check.due("one twice", Check.rank(x, 0, 1, 0, 1), NONE);
        check.due("not from where the one ahead goes to", Check.rank(x, 0, 2, 1, 3), NONE);
        check.due("begins with ARC 2", Check.rank(x, 2, 3, 0, 1), NONE);
        check.due("begins with ARC 1", Check.rank(x, 1, 2, 3, 0), NONE);
        check.due("a WALK", Check.rank(x, 0, 1, 2, 3), 0);
        for (int i = 0; i < 27; i++) {
            x.feed(0x00010203, 0, 0, 0, 0);
        }
        check.due("a full tape", x.rank(), NONE);
        RoundWalks open = Check.make(2, "ba ab ab");
        check.due("OPEN, begins elsewhere", Check.rank(open, 0, 1, 2), NONE);
        check.due("OPEN, not with ARC 0", Check.rank(open, 1, 0, 2), 0);
        check.due("OPEN, the last", Check.rank(open, 2, 0, 1), 1);
        RoundWalks apart = Check.make(2, "aa bb");
        check.due("not JOINED", Check.rank(apart, 0, 1), NONE);
        RoundWalks uneven = Check.make(3, "ab bc ab");
        check.due("neither", Check.rank(uneven, 0, 1, 2), NONE);
        RoundWalks full = Check.make(1, "aa aa aa aa aa aa aa aa aa aa aa aa aa aa aa aa");
        check.due("16 ARCS", Check.rank(full, 0, 1, 2, 3, 4, 5, 6, 7, 8, 9, 10, 11, 12, 13, 15, 14), 1);
        check.due("17 bytes", Check.rank(full, 0, 1, 2, 3, 4, 5, 6, 7, 8, 9, 10, 11, 12, 13, 14, 15, 0), NONE);
        check.due("ARC 16", Check.rank(full, 0, 1, 2, 3, 4, 5, 6, 7, 8, 9, 10, 11, 12, 13, 14, 16), NONE);
    }

    private static void rankRefusedLooksAtNone() {
        check.part("17: a refused one is not looked at");
        RoundWalks x = Check.make(3, "ab ba ac ca");
        Check.rank(x, 0, 1, 2, 2);
        check.due("ahead of any", x.walkAt(0), NONE);
        check.due("ahead of any", x.lasts(), NONE);
        Check.rank(x, 0, 1, 2, 3);
        check.due("lasts", x.lasts(), 10);
        Check.rank(x, 2, 3, 0, 1);
        check.due("walkAt 0", x.walkAt(0), 0);
        check.due("walkAt 3", x.walkAt(3), 3);
        check.due("lasts", x.lasts(), 10);
    }

    private static void noneBy(RoundWalks x, int tree) {
        check.due("by " + tree, x.by(tree), 0);
        check.due("first " + tree, x.first(tree), NONE);
    }

    private static void byOfNone() {
        check.part("18, 19: there is none");
        noneBy(new RoundWalks(), 0);
        noneBy(Check.make(3, ""), 0);
        noneBy(Check.make(2, "ab ab"), 1);
        noneBy(Check.make(2, "aa bb"), 0);
        RoundWalks x = Check.make(3, "ab ba bc cb ca ac");
        // One of 1, 2 from b and one of 3, 4 from c, but not the ring of 2 and 3.
        for (int tree = -3; tree < 200; tree++) {
            boolean fits = tree == 10 || tree == 18 || tree == 20;
            check.due("by " + tree, x.by(tree), fits ? 1 : 0);
            check.due("first " + tree, x.first(tree) >= 0, fits);
        }
        for (int bit = 6; bit < 32; bit++) {
            noneBy(x, 10 | 1 << bit);
        }
        noneBy(x, LOW);
        noneBy(x, HIGH);
        check.part("18, 19: one USED POINT");
        RoundWalks loops = Check.make(8, "hh hh hh");
        check.due("by 0", loops.by(0), 2);
        check.due("first 0", loops.first(0), 0);
        noneBy(loops, 1);
        noneBy(loops, 2);
        check.part("18: most");
        RoundWalks most = Check.make(2, "aa aa aa aa aa aa aa aa aa aa aa aa aa aa aa ab");
        check.due("by 15", most.by(1 << 15), 1307674368000L);
        check.due("first by 15", most.first(1 << 15), 0);
        noneBy(most, 1 << 14);
        noneBy(most, 1 << 15 | 1 << 16);
    }

    private static void drawnOfNone() {
        check.part("20: there are none");
        RoundWalks x = Check.make(2, "ab ba");
        x.walk(0);
        x.drop(1);
        x.add(0, 1);
        check.due("none", x.drawn(5), NONE);
        check.due("the one ahead is looked at still", x.walkAt(1), 1);
        check.due("its LASTS", x.lasts(), 2);
        check.due("no NET", new RoundWalks().drawn(0), NONE);
        check.part("20: one alone");
        RoundWalks one = Check.make(1, "aa");
        for (int seed : new int[] {0, 1, -1, LOW, HIGH}) {
            check.due("seed " + seed, one.drawn(seed), 0);
        }
        check.due("looked at", one.walkAt(0), 0);
    }

    /** The number that the draws of a place on make, by hand. */
    private static long wide(int seed, int from, long many) {
        int[] draws = draws(seed, from + 3);
        java.math.BigInteger n = java.math.BigInteger.valueOf(draws[from] % 16384).shiftLeft(48);
        n = n.add(java.math.BigInteger.valueOf(draws[from + 1]).shiftLeft(24));
        n = n.add(java.math.BigInteger.valueOf(draws[from + 2]));
        return n.mod(java.math.BigInteger.valueOf(many)).longValueExact();
    }

    private static int[] draws(int seed, int many) {
        int[] draws = new int[many];
        long s = seed & 0xffffffffL;
        for (int i = 0; i < many; i++) {
            // By longs, cut to 32 bits: an int that wraps is the same.
            s = (s * 1103515245L + 12345L) & 0xffffffffL;
            draws[i] = (int) (s >> 8);
        }
        return draws;
    }

    private static void drawnWraps() {
        check.part("20: an int, wrapping; the draw is 24 bits");
        RoundWalks x = Check.make(1, "aa aa aa aa aa aa aa aa aa aa aa aa aa aa aa");
        long all = x.walks();
        for (int seed : new int[] {0, 1, 2, -1, -2, LOW, LOW + 1, HIGH, HIGH - 1, 1 << 16, 0x55555555, 0xaaaaaaaa}) {
            check.due("seed " + seed, x.drawn(seed), wide(seed, 0, all));
        }
    }

    private static void drawnRefused() {
        check.part("20: three more, if n is not below the greatest multiple");
        RoundWalks x = Check.make(1, "aa aa aa aa aa aa aa aa aa aa aa aa aa aa aa aa");
        long all = x.walks();
        check.due("by this seed the first three are refused", x.drawn(3255040), wide(3255040, 3, all));
        check.due("it is looked at", Check.rank(x, lookedAt(x, 16)), wide(3255040, 3, all));
        check.due("not so with fewer WALKS", Check.make(1, "aa aa aa").drawn(3255040), wide(3255040, 0, 2));
    }

    private static int[] lookedAt(RoundWalks x, int many) {
        int[] row = new int[many];
        for (int i = 0; i < many; i++) {
            row[i] = x.walkAt(i);
        }
        return row;
    }

    // ---- Promises 21 to 24

    private static void words() {
        wordsOfEachLengthTold();
        unlikeLetters();
        refusedWordsStay();
        rankOfAWord();
        wordOfRank();
        letters();
    }

    private static void wordsOfEachLengthTold() {
        check.part("21: small letters, 2 to 17");
        for (int length = 0; length <= 40; length++) {
            RoundWalks x = new RoundWalks();
            boolean fits = length >= 2 && length <= 17;
            check.due(length + " letters", Check.words(x, "k".repeat(length)), fits ? 1 : NONE);
            check.due("rank", x.wordRank(), fits ? 0 : NONE);
        }
        RoundWalks x = new RoundWalks();
        for (int i = 0; i < 27; i++) {
            x.feed(0x61616161, 0x61616161, 0x61616161, 0x61616161, 0x61616161);
        }
        check.due("540 letters", x.words(), NONE);
        for (int sign = 0; sign < 256; sign++) {
            RoundWalks y = new RoundWalks();
            check.due("byte " + sign, Check.words(y, "a" + (char) sign), isLetter(sign) ? 1 : NONE);
            check.due("first byte " + sign, Check.words(y, (char) sign + "a"), isLetter(sign) ? 1 : NONE);
        }
    }

    private static void unlikeLetters() {
        check.part("21: 8 unlike ones at most");
        RoundWalks x = new RoundWalks();
        check.due("8", Check.words(x, "abcdwxyz"), 1);
        check.due("8 without a", Check.words(x, "stuvwxyz"), 1);
        check.due("8 without z", Check.words(x, "hgfedcba"), 1);
        check.due("9", Check.words(x, "abcdvwxyz"), NONE);
        check.due("8 of 17", Check.words(x, "abcdwxyzabcdwxyza"), 1);
        check.due("9 of 17", Check.words(x, "abcdwxyzabcdwxyze"), NONE);
        check.due("17 unlike", Check.words(x, "abcdefghijklmnopq"), NONE);
        check.due("1", Check.words(x, "zz"), 1);
    }

    private static void refusedWordsStay() {
        check.part("21: it is no such word: the one told ahead stays");
        RoundWalks x = new RoundWalks();
        check.due("none", Check.words(x, "a"), NONE);
        check.due("ahead of any", x.wordRank(), NONE);
        check.throwsNone("ahead of any", () -> x.word(0));
        check.due("acababa", Check.words(x, "acababa"), 3);
        String[] wrong = {"", "b", "abcdefghi", "aB", "a b", "aaaaaaaaaaaaaaaaaa"};
        for (String word : wrong) {
            check.due(word, Check.words(x, word), NONE);
            check.due("rank", x.wordRank(), 2);
            check.due("word", x.word(1), 'a');
            check.due("letter", x.letterAt(3), 'c');
        }
    }

    private static void rankOfAWord() {
        check.part("22: the first, the last");
        RoundWalks x = new RoundWalks();
        check.due("ahead of any", x.wordRank(), NONE);
        long many = Check.words(x, "aaabacadaeafagaha");
        check.due("how many", many, 181440);
        check.due("the first", x.wordRank(), 0);
        Check.words(x, "ahagafaeadacabaaa");
        check.due("the last", x.wordRank(), many - 1);
        Check.words(x, "ab");
        check.due("the only one", x.wordRank(), 0);
        long open = Check.words(x, "abaabaabaabaabaab");
        Check.words(x, "aaaaaababababababab".substring(0, 17));
        check.due("the first, OPEN", x.wordRank(), 0);
        check.due("some", open > 0, true);
    }

    private static void wordOfRank() {
        check.part("23: none such");
        RoundWalks x = new RoundWalks();
        for (long rank : new long[] {0, 1, -1, Long.MAX_VALUE}) {
            check.throwsNone("nothing told", () -> x.word(rank));
        }
        Check.words(x, "acababa");
        check.due("first", x.word(0), 'a');
        check.due("last", x.word(2), 'a');
        long[] wrong = {3, 4, -1, Long.MIN_VALUE, Long.MAX_VALUE, 1L << 32, (1L << 32) + 1};
        for (long rank : wrong) {
            check.throwsNone("word " + rank, () -> x.word(rank));
            check.due("the last one is looked at still", x.letterAt(1), 'c');
        }
        check.part("23: the first, the last of most");
        Check.words(x, "abacadaeafagahaaa");
        x.word(0);
        spelled(x, "aaabacadaeafagaha");
        x.word(181439);
        spelled(x, "ahagafaeadacabaaa");
        check.throwsNone("behind the last", () -> x.word(181440));
        spelled(x, "ahagafaeadacabaaa");
        Check.words(x, "zy");
        check.due("last letter", x.word(0), 'y');
        check.throwsNone("one alone", () -> x.word(1));
    }

    private static void spelled(RoundWalks x, String word) {
        for (int i = 0; i < word.length(); i++) {
            check.due("letter " + i + " of " + word, x.letterAt(i), word.charAt(i));
        }
        check.due("behind " + word, x.letterAt(word.length()), NONE);
    }

    private static void letters() {
        check.part("24: none such, or ahead of any");
        RoundWalks x = new RoundWalks();
        check.due("ahead of any", x.letterAt(0), NONE);
        Check.words(x, "azaz");
        check.due("told, not looked at", x.letterAt(0), NONE);
        x.word(0);
        spelled(x, "azaz");
        for (int i : new int[] {-1, 4, 16, 17, 18, LOW, HIGH}) {
            check.due("letterAt " + i, x.letterAt(i), NONE);
        }
        Check.words(x, "abcdeabcde");
        spelled(x, "azaz");
        x.word(0);
        spelled(x, "abcdeabcde");
        Check.words(x, "ba");
        x.word(0);
        spelled(x, "ba");
        check.due("of the longer one nothing is left", x.letterAt(2), NONE);
        x.braid(2, 2);
        x.walk(0);
        spelled(x, "ba");
    }

    // ---- Promises 25 to 28

    private static void needs() {
        braids();
        againOfNone();
        againAtMost();
        askedTwice();
        lackOfNone();
        rightedOfNone();
        rightedLeast();
    }

    private static void braids() {
        check.part("25: k 1 to 4, n 1 to 4, 16 ARCS at most");
        int[] some = {LOW, -1, 0, 1, 2, 3, 4, 5, 6, 16, 17, HIGH};
        for (int k : some) {
            for (int n : some) {
                long arcs = k >= 1 && k <= 4 && n >= 1 && n <= 4 ? Math.round(Math.pow(k, n)) : NONE;
                boolean fits = arcs > 0 && arcs <= 16;
                RoundWalks x = Check.make(3, "ab ca");
                check.due("braid " + k + " " + n, x.braid(k, n), fits ? arcs : NONE);
                check.due("arcs", x.now(1), fits ? arcs : 2);
                check.due("points", x.now(0), fits ? arcs / k : 3);
                check.due("acts", x.now(7), fits ? 1 : 0);
                check.due("kind", x.kind(), fits ? 1 : 2);
            }
        }
        check.part("25: by 1: one POINT");
        RoundWalks x = new RoundWalks();
        x.braid(4, 1);
        for (int k = 0; k < 4; k++) {
            check.due("from", x.arc(k, 0), 0);
            check.due("to", x.arc(k, 1), 0);
        }
        check.part("25: as numbers by k");
        x.braid(2, 4);
        for (int k = 0; k < 16; k++) {
            check.due("from", x.arc(k, 0), k >> 1);
            check.due("to", x.arc(k, 1), k & 7);
        }
        x.braid(3, 2);
        for (int k = 0; k < 9; k++) {
            check.due("from", x.arc(k, 0), k / 3);
            check.due("to", x.arc(k, 1), k % 3);
        }
    }

    private static void againOfNone() {
        check.part("26: there is no such row, or no ARC");
        check.due("no POINTS", new RoundWalks().again(), NONE);
        check.due("no ARC", Check.make(8, "").again(), NONE);
        check.due("one way", Check.make(8, "ab").again(), NONE);
        check.due("a ring and a way out", Check.make(3, "ab ba bc").again(), NONE);
        check.due("a ring and a way in", Check.make(3, "ab ba cb").again(), NONE);
        check.due("two rings apart", Check.make(4, "ab ba cd dc").again(), NONE);
        check.due("two loops apart", Check.make(2, "aa bb").again(), NONE);
        check.part("26: none more");
        check.due("a loop", Check.make(8, "hh").again(), 0);
        check.due("a ring", Check.make(8, "ab bc cd de ef fg gh ha").again(), 0);
    }

    private static void againAtMost() {
        check.part("26: the most there are");
        check.due("15 forth, 1 back", Check.make(2, "ab ab ab ab ab ab ab ab ab ab ab ab ab ab ab ba").again(), 14);
        check.due("9 forth, 7 back in a row", Check.make(8, "ab ab ab ab ab ab ab ab ab bc cd de ef fg gh ha").again(), 56);
        check.due("some of a ring", Check.make(6, "ab bc cd de ef fa ab ab ab ab bc bc bc cd cd").again(), 15);
    }

    private static void askedTwice() {
        check.part("26, 27, 28: asked twice, and behind one another");
        RoundWalks x = Check.make(4, "ab ab ab bc ca cd da");
        for (int times = 0; times < 3; times++) {
            check.due("again", x.again(), 3);
            check.due("lack", x.lack(), 1);
            check.due("righted", x.righted(1), NONE);
        }
        x.braid(2, 3);
        x.turn(2);
        for (int times = 0; times < 3; times++) {
            check.due("again", x.again(), 4);
            check.due("righted", x.righted(0), 1);
            check.due("righted", x.righted(1), 4);
        }
        check.due("the NET stays", x.arc(2, 0), 2);
    }

    private static void lackOfNone() {
        check.part("27: it is not JOINED, or has no ARC");
        check.due("no POINTS", new RoundWalks().lack(), NONE);
        check.due("no ARC", Check.make(8, "").lack(), NONE);
        check.due("apart", Check.make(2, "aa bb").lack(), NONE);
        check.due("an ARC and a loop apart", Check.make(3, "ab cc").lack(), NONE);
        check.part("27: none more; the most");
        check.due("ROUND", Check.make(8, "hh").lack(), 0);
        check.due("OPEN", Check.make(8, "ab").lack(), 0);
        check.due("one", Check.make(3, "ab ac").lack(), 1);
        check.due("one", Check.make(3, "ba ca").lack(), 1);
        check.due("fifteen", Check.make(2, "ab ab ab ab ab ab ab ab ab ab ab ab ab ab ab ab").lack(), 15);
        check.due("six of a star", Check.make(8, "ha hb hc hd he hf hg").lack(), 6);
        check.due("to and from by turns", Check.make(6, "ab cb cd ed ef").lack(), 4);
    }

    private static void righted(int points, String arcs, int many, int set) {
        RoundWalks x = Check.make(points, arcs);
        check.due("how many: " + arcs, x.righted(0), many);
        check.due("the set: " + arcs, x.righted(1), set);
        for (int what : new int[] {-1, 2, LOW, HIGH}) {
            check.due("another what: " + arcs, x.righted(what), NONE);
        }
    }

    private static void rightedOfNone() {
        check.part("28: no such set, another what");
        righted(0, "", 0, 0);
        righted(8, "", 0, 0);
        righted(8, "hh", 0, 0);
        righted(2, "aa bb", 0, 0);
        righted(2, "ab", NONE, NONE);
        righted(2, "ab ba ab", NONE, NONE);
        righted(4, "ab cd ab", NONE, NONE);
        righted(8, "ha hb hc hd he hf hg", NONE, NONE);
        check.part("28: not JOINED");
        righted(4, "ab ab cd cd", 2, 5);
    }

    private static void rightedLeast() {
        check.part("28: the fewest; of like sets the least number");
        righted(2, "ab ab ab ab ab ab ab ab ab ab ab ab ab ab ab ab", 8, 255);
        righted(2, "ab ba ab ba ab ba ab ba ab ba ab ba ab ba ab ab", 1, 1);
        righted(2, "ba ab ab ab", 1, 2);
        righted(1, "aa aa aa aa aa aa aa aa aa aa aa aa aa aa aa aa", 0, 0);
        righted(8, "ab bc cd de ef fg gh ah", 1, 128);
        righted(8, "ba bc cd de ef fg gh ha", 1, 1);
        righted(8, "ab bc cd de fe gf hg ah", 4, 15);
        righted(8, "ah hg gf fe de cd bc ab", 4, 15);
        righted(5, "ad de eb aa aa aa aa aa aa aa aa aa aa aa ac cb", 2, 1 << 14 | 1 << 15);
    }

    // ---- Promises 29 to 35

    private static void acts() {
        addOfNone();
        dropAtTheEnds();
        turnAtTheEnds();
        deedsOfNone();
        deedsWithoutArcs();
        deedsWithSixteenArcs();
        deedsOfOnePoint();
        deedsOfEachKind();
        undoOfNone();
        eightAreKept();
        refusedActsAreNone();
        imagesOfNone();
        imagesAreTheirOwn();
        restoreLeavesTheRest();
        throwsChangeNothing();
    }

    private static void addOfNone() {
        check.part("29: there are 16, no such POINTS");
        RoundWalks x = Check.make(8, FULL);
        check.due("a 17th", x.add(0, 0), NONE);
        check.due("arcs", x.now(1), 16);
        check.due("acts", x.now(7), 0);
        x.drop(15);
        check.due("the 16th", x.add(7, 7), 15);
        check.due("from", x.arc(15, 0), 7);
        RoundWalks few = Check.make(2, "");
        for (int p : new int[] {-1, 2, 8, 32, LOW, HIGH}) {
            check.due("from " + p, few.add(p, 0), NONE);
            check.due("to " + p, few.add(0, p), NONE);
        }
        check.due("acts", few.now(7), 0);
        check.due("the first", few.add(1, 0), 0);
        check.due("told again", few.add(1, 0), 1);
        check.due("without POINTS", new RoundWalks().add(0, 0), NONE);
    }

    private static void dropAtTheEnds() {
        check.part("30: those behind it are one less; no such one");
        RoundWalks x = Check.make(8, FULL);
        for (int k : new int[] {-1, 16, 17, LOW, HIGH}) {
            check.due("drop " + k, x.drop(k), NONE);
        }
        check.due("acts", x.now(7), 0);
        check.due("the last", x.drop(15), 15);
        check.due("no longer", x.drop(15), NONE);
        check.due("arc 14 stays", x.arc(14, 0), 5);
        check.due("the first", x.drop(0), 14);
        check.due("arc 0 was 1", x.arc(0, 0), 1);
        check.due("arc 13 was 14", x.arc(13, 0), 5);
        check.due("in the midst", x.drop(6), 13);
        check.due("arc 5 stays", x.arc(5, 0), 6);
        check.due("arc 6 was 7", x.arc(6, 1), 2);
        for (int left = 12; left >= 0; left--) {
            check.due("drop 0", x.drop(0), left);
        }
        check.due("none is left", x.drop(0), NONE);
        check.due("points stay", x.now(0), 8);
    }

    private static void turnAtTheEnds() {
        check.part("31: the POINT to which it goes then; no such one");
        RoundWalks x = Check.make(8, FULL);
        for (int k : new int[] {-1, 16, 17, LOW, HIGH}) {
            check.due("turn " + k, x.turn(k), NONE);
        }
        check.due("acts", x.now(7), 0);
        check.due("turn 0", x.turn(0), 0);
        check.due("and back", x.turn(0), 1);
        check.due("turn 15", x.turn(15), 7);
        check.due("from", x.arc(15, 0), 1);
        check.due("acts", x.now(7), 3);
        check.due("a loop", Check.make(8, "hh").turn(0), 7);
        check.due("no ARCS", Check.make(8, "").turn(0), NONE);
    }

    private static void deedsOfNone() {
        check.part("32: n (1 to 60)");
        RoundWalks x = Check.make(8, FULL);
        for (int n : new int[] {0, -1, 61, 62, LOW, HIGH}) {
            check.due("deeds " + n, x.deeds(n, 3), NONE);
        }
        check.due("acts", x.now(7), 0);
        check.due("arcs", x.now(1), 16);
        check.due("without POINTS", new RoundWalks().deeds(60, 3), 0);
        for (int n : new int[] {1, 2, 59, 60}) {
            for (int seed : new int[] {0, 1, -1, LOW, HIGH, 77}) {
                asTold(Check.make(8, FULL), n, seed);
                asTold(Check.make(3, ""), n, seed);
                asTold(Check.make(1, "aa"), n, seed);
            }
        }
    }

    /** Does the deeds by hand on rows of POINTS, and compares. */
    private static void asTold(RoundWalks x, int n, int seed) {
        java.util.List<int[]> arcs = new java.util.ArrayList<>();
        for (int k = 0; k < x.now(1); k++) {
            arcs.add(new int[] {x.arc(k, 0), x.arc(k, 1)});
        }
        int points = x.now(0);
        int[] draws = draws(seed, 3 * n);
        int at = 0;
        int done = 0;
        for (int i = 0; i < n; i++) {
            int act = draws[at++] % 4;
            if (act < 2 && !arcs.isEmpty()) {
                int[] arc = arcs.remove(draws[at] % arcs.size());
                if (act == 1) {
                    arcs.add(draws[at] % (arcs.size() + 1), new int[] {arc[1], arc[0]});
                }
                at++;
                done++;
            } else if (act >= 2 && arcs.size() < 16) {
                arcs.add(new int[] {draws[at] % points, draws[at + 1] % points});
                at += 2;
                done++;
            }
        }
        check.due(n + " deeds by " + seed, x.deeds(n, seed), done);
        check.due("arcs", x.now(1), arcs.size());
        for (int k = 0; k < arcs.size(); k++) {
            check.due("from", x.arc(k, 0), arcs.get(k)[0]);
            check.due("to", x.arc(k, 1), arcs.get(k)[1]);
        }
        check.due("acts", x.now(7), done > 0 ? 1 : 0);
    }

    /** The least seed whose draws modulo 4 are as told at the places told. */
    private static int seed(int[] places, boolean[] adds) {
        for (int seed = 0; seed < 1000000; seed++) {
            int[] draws = draws(seed, 8);
            boolean fits = true;
            for (int i = 0; i < places.length; i++) {
                fits &= draws[places[i]] % 4 > 1 == adds[i];
            }
            if (fits) {
                return seed;
            }
        }
        return 0;
    }

    private static void deedsWithoutArcs() {
        check.part("32: without ARCS: no draw, nothing");
        int seed = seed(new int[] {0, 1}, new boolean[] {false, true});
        int[] draws = draws(seed, 4);
        RoundWalks x = Check.make(8, "");
        check.due("one deed", x.deeds(1, seed), 0);
        check.due("no act", x.now(7), 0);
        check.due("two deeds", x.deeds(2, seed), 1);
        check.due("from", x.arc(0, 0), draws[2] % 8);
        check.due("to", x.arc(0, 1), draws[3] % 8);
        check.due("one act", x.now(7), 1);
    }

    private static void deedsWithSixteenArcs() {
        check.part("32: with 16 ARCS: no draws, nothing");
        int seed = seed(new int[] {0, 1}, new boolean[] {true, false});
        int[] draws = draws(seed, 3);
        RoundWalks x = Check.make(8, FULL);
        check.due("one deed", x.deeds(1, seed), 0);
        check.due("no act", x.now(7), 0);
        check.due("two deeds", x.deeds(2, seed), 1);
        RoundWalks y = Check.make(8, FULL);
        if (draws[1] % 4 == 0) {
            y.drop(draws[2] % 16);
        } else {
            y.turn(draws[2] % 16);
        }
        same(x, y);
        check.part("32: the 16th is ADDED, a 17th not");
        int three = seed(new int[] {0, 3, 4}, new boolean[] {true, true, false});
        draws = draws(three, 6);
        x.undo();
        x.drop(0);
        check.due("three deeds", x.deeds(3, three), 2);
        y = Check.make(8, FULL);
        y.drop(0);
        y.add(draws[1] % 8, draws[2] % 8);
        if (draws[4] % 4 == 0) {
            y.drop(draws[5] % 16);
        } else {
            y.turn(draws[5] % 16);
        }
        same(x, y);
    }

    private static void same(RoundWalks x, RoundWalks y) {
        check.due("points", x.now(0), y.now(0));
        check.due("arcs", x.now(1), y.now(1));
        for (int k = 0; k < Math.min(x.now(1), y.now(1)); k++) {
            check.due("from of " + k, x.arc(k, 0), y.arc(k, 0));
            check.due("to of " + k, x.arc(k, 1), y.arc(k, 1));
        }
    }

    private static void deedsOfOnePoint() {
        check.part("32: one POINT: a draw modulo POINTS, another one");
        int seed = seed(new int[] {0, 3}, new boolean[] {true, false});
        RoundWalks x = Check.make(1, "");
        check.due("one deed", x.deeds(1, seed), 1);
        check.due("a loop", x.arc(0, 0) + x.arc(0, 1), 0);
        x.undo();
        check.due("two deeds", x.deeds(2, seed), 2);
        check.due("dropped or turned", x.now(1), draws(seed, 4)[3] % 4 == 0 ? 0 : 1);
        check.part("32: without POINTS: no draws, nothing");
        RoundWalks none = new RoundWalks();
        for (int each = 0; each < 20; each++) {
            check.due("seed " + each, none.deeds(60, each), 0);
        }
        check.due("acts", none.now(7), 0);
    }

    private static void deedsOfEachKind() {
        check.part("32: each DEED by itself");
        boolean[] met = new boolean[4];
        for (int seed = 0; seed < 400; seed++) {
            int[] draws = draws(seed, 3);
            RoundWalks x = Check.make(3, "ab bc cc");
            RoundWalks y = Check.make(3, "ab bc cc");
            met[draws[0] % 4] = true;
            switch (draws[0] % 4) {
                case 0: y.drop(draws[1] % 3); break;
                case 1: y.turn(draws[1] % 3); break;
                default: y.add(draws[1] % 3, draws[2] % 3);
            }
            check.due("done", x.deeds(1, seed), 1);
            same(x, y);
            check.due("undo", x.undo(), 0);
            same(x, Check.make(3, "ab bc cc"));
        }
        for (int act = 0; act < 4; act++) {
            check.due("met " + act, met[act], true);
        }
    }

    private static void undoOfNone() {
        check.part("33: none is");
        RoundWalks x = new RoundWalks();
        check.due("new", x.undo(), NONE);
        x.braid(2, 2);
        check.due("one", x.undo(), 0);
        check.due("points", x.now(0), 0);
        check.due("none", x.undo(), NONE);
        check.due("none again", x.undo(), NONE);
        check.due("acts", x.now(7), 0);
        x.braid(3, 1);
        check.due("an act behind", x.now(7), 1);
        check.due("one", x.undo(), 0);
        check.due("what is undone is no act", x.undo(), NONE);
    }

    private static void eightAreKept() {
        check.part("33: 8 at most are kept");
        for (int many = 1; many <= 16; many++) {
            RoundWalks x = Check.make(1, "");
            for (int k = 0; k < many; k++) {
                x.add(0, 0);
            }
            int kept = Math.min(many, 8);
            check.due("acts", x.now(7), kept);
            for (int left = kept - 1; left >= 0; left--) {
                check.due("undo", x.undo(), left);
                check.due("arcs", x.now(1), many - kept + left);
            }
            check.due("no more", x.undo(), NONE);
            check.due("arcs", x.now(1), many - kept);
        }
        ringOfActs();
    }

    /** Acts and undos by turns, past the end of any ring in which they may be kept. */
    private static void ringOfActs() {
        RoundWalks x = Check.make(1, "");
        int acts = 0;
        for (int turn = 0; turn < 20; turn++) {
            for (int k = 0; k < 3; k++) {
                check.due("add", x.add(0, 0), k);
            }
            acts = Math.min(8, acts + 3);
            check.due("undo", x.undo(), acts - 1);
            check.due("undo", x.undo(), acts - 2);
            x.drop(0);
            x.braid(1, 1);
            x.drop(0);
            acts = Math.min(8, acts + 1);
            check.due("acts", x.now(7), acts);
            check.due("undo", x.undo(), acts - 1);
            check.due("one of the braid", x.now(1), 1);
            check.due("undo", x.undo(), acts - 2);
            check.due("none ahead of it", x.now(1), 0);
            acts -= 2;
        }
    }

    private static void refusedActsAreNone() {
        check.part("33: that was not NONE, deeds() above 0");
        RoundWalks x = Check.make(8, FULL);
        for (int i = 0; i < 8; i++) {
            x.turn(i);
        }
        x.braid(5, 1);
        x.braid(4, 3);
        x.add(0, 0);
        x.add(8, 0);
        x.drop(16);
        x.turn(-1);
        x.deeds(0, 1);
        x.deeds(61, 1);
        int seed = seed(new int[] {0}, new boolean[] {true});
        check.due("no deed", x.deeds(1, seed), 0);
        Check.net(x, "1");
        x.image(0);
        x.image(2);
        x.restore(1);
        x.restore(2);
        x.drawn(1);
        check.due("acts", x.now(7), 8);
        for (int i = 7; i >= 0; i--) {
            check.due("undo", x.undo(), i);
            check.due("turned back", x.arc(i, 0), FULL.charAt(3 * i) - 'a');
        }
        same(x, Check.make(8, FULL));
    }

    private static void imagesOfNone() {
        check.part("34, 35: no such one, or nothing is kept there");
        RoundWalks x = Check.make(2, "ab");
        x.turn(0);
        for (int k : new int[] {-1, 2, 3, LOW, HIGH}) {
            check.due("image " + k, x.image(k), false);
            check.due("restore " + k, x.restore(k), false);
        }
        check.due("restore 0", x.restore(0), false);
        check.due("restore 1", x.restore(1), false);
        check.due("nothing changes", x.now(7), 1);
        check.due("image 1", x.image(1), true);
        check.due("image is no act", x.now(7), 1);
        check.due("nothing in 0", x.restore(0), false);
        check.due("acts", x.now(7), 1);
        check.due("restore 1", x.restore(1), true);
        check.due("nothing can be undone", x.now(7), 0);
        check.due("undo", x.undo(), NONE);
    }

    private static void imagesAreTheirOwn() {
        check.part("34, 35: as kept in place k");
        RoundWalks x = Check.make(8, FULL);
        x.image(0);
        x.turn(0);
        x.drop(15);
        x.image(1);
        x.braid(1, 1);
        x.restore(0);
        same(x, Check.make(8, FULL));
        x.turn(3);
        x.drop(0);
        x.restore(0);
        same(x, Check.make(8, FULL));
        x.restore(1);
        check.due("arcs", x.now(1), 15);
        check.due("turned", x.arc(0, 0), 1);
        Check.net(x, "");
        check.due("kept again", x.image(0), true);
        x.restore(1);
        check.due("arcs", x.now(1), 15);
        check.due("a NET without POINTS", x.restore(0), true);
        check.due("points", x.now(0), 0);
        check.due("arcs", x.now(1), 0);
        check.due("and again", x.restore(0), true);
    }

    private static void restoreLeavesTheRest() {
        check.part("35: the tape, what other calls told last stay");
        RoundWalks x = Check.make(2, "ab ba");
        x.image(0);
        x.walk(0);
        Check.words(x, "acababa");
        x.word(2);
        Check.net(x, "arc q q;");
        x.braid(2, 2);
        x.feed(0x61616161, 0, 0, 0, 0);
        x.end(3);
        check.due("restore", x.restore(0), true);
        check.due("tape", x.now(8), 3);
        check.due("fault", x.fault(), 2);
        check.due("walkAt", x.walkAt(1), 1);
        check.due("lasts", x.lasts(), 2);
        check.due("wordRank", x.wordRank(), 2);
        check.due("letterAt", x.letterAt(1), 'c');
        check.due("word", x.word(1), 'a');
        check.due("the tape's word", x.words(), 1);
    }

    private static void throwsChangeNothing() {
        check.part("a call that throws changes nothing");
        RoundWalks x = Check.make(2, "ab ba ab ba");
        x.turn(0);
        x.turn(0);
        x.image(0);
        x.walk(1);
        Check.words(x, "acababa");
        x.word(1);
        Check.net(x, "arc q q;");
        x.feed(0x61616161, 0, 0, 0, 0);
        long before = told(x);
        check.throwsNone("arc", () -> x.arc(4, 0));
        check.due("behind arc", told(x), before);
        check.throwsNone("degree", () -> x.degree(2, 0));
        check.due("behind degree", told(x), before);
        check.throwsNone("tree", () -> x.tree(0, 2));
        check.due("behind tree", told(x), before);
        check.throwsNone("walk", () -> x.walk(2));
        check.due("behind walk", told(x), before);
        check.throwsNone("word", () -> x.word(3));
        check.due("behind word", told(x), before);
    }

    /** All that can be told of an object without changing it, in one number. */
    private static long told(RoundWalks x) {
        long sum = 0;
        for (int what = 0; what < 9; what++) {
            sum = sum * 31 + x.now(what);
        }
        for (int k = 0; k < x.now(1); k++) {
            sum = (sum * 31 + x.arc(k, 0)) * 31 + x.arc(k, 1);
        }
        for (int i = 0; i < 17; i++) {
            sum = (sum * 31 + x.walkAt(i)) * 31 + x.letterAt(i);
        }
        sum = (sum * 31 + x.lasts()) * 31 + x.wordRank();
        return ((sum * 31 + x.fault()) * 31 + x.walks()) * 31 + x.kind();
    }
}
