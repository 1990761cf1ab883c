import java.util.NoSuchElementException;

/** Closed and open walks that go along each line of a small directed network once. */
public final class RoundWalks {
    public static final int NONE = -1;

    private static final int MOST_POINTS = 8;
    private static final int MOST_ARCS = 16;
    private static final int MOST_LETTERS = 17;
    private static final int MOST_TEXT = 500;
    private static final int TAPE_ROOM = 540;
    private static final int FEED_SIZE = 20;
    private static final int MOST_SIGNS = 4;
    private static final int MOST_DEEDS = 60;
    private static final int MOST_ACTS = 8;
    private static final int PLACES = 2;

    private static final int NEITHER = 0;
    private static final int ROUND = 1;
    private static final int OPEN = 2;

    private static final long[] FACTORIALS = {
        1L, 1L, 2L, 6L, 24L, 120L, 720L, 5040L, 40320L, 362880L, 3628800L, 39916800L,
        479001600L, 6227020800L, 87178291200L, 1307674368000L, 20922789888000L};

    private final Tape tape = new Tape();
    private final Reader reader = new Reader();
    private final Net current = new Net();
    private final History history = new History();
    private final Net[] images = new Net[PLACES];
    private final boolean[] kept = new boolean[PLACES];
    private final Trees treeTeller = new Trees();
    private final Walker walker = new Walker();
    private final Speller speller = new Speller();
    private final Flow flow = new Flow();
    private final Draws draws = new Draws();
    private int latestFault = 0;

    public RoundWalks() {
        for (int k = 0; k < PLACES; k++) {
            images[k] = new Net();
        }
    }

    public int feed(int a, int b, int c, int d, int e) {
        if (tape.size + FEED_SIZE > TAPE_ROOM) {
            return NONE;
        }
        tape.push(a);
        tape.push(b);
        tape.push(c);
        tape.push(d);
        tape.push(e);
        return tape.size;
    }

    public boolean end(int n) {
        return tape.cut(n);
    }

    public int net() {
        int answer = reader.parse(tape);
        tape.cut(0);
        latestFault = reader.faultKind;
        if (latestFault == 0) {
            current.copyFrom(reader.told);
            history.forget();
        }
        return answer;
    }

    public int fault() {
        return latestFault;
    }

    public int now(int what) {
        switch (what) {
            case 0:
                return current.points;
            case 1:
                return current.arcs;
            case 2:
                return current.usedPoints();
            case 3:
                return current.isJoined() ? 1 : 0;
            case 4:
                return current.pointsWithExcess(1);
            case 5:
                return current.pointsWithExcess(-1);
            case 6:
                return current.isStrong() ? 1 : 0;
            case 7:
                return history.size;
            case 8:
                return tape.size;
            default:
                return NONE;
        }
    }

    public int arc(int k, int what) throws NoSuchElementException {
        if (!current.hasArc(k) || what < 0 || what > 1) {
            throw new NoSuchElementException("no such arc, or no such end of it");
        }
        return what == 0 ? current.from[k] : current.to[k];
    }

    public int degree(int p, int what) throws NoSuchElementException {
        if (!current.hasPoint(p) || what < 0 || what > 1) {
            throw new NoSuchElementException("no such point, or no such degree");
        }
        return what == 0 ? current.outOf(p) : current.into(p);
    }

    public int kind() {
        return current.shape();
    }

    public int ends(int what) {
        int shape = current.shape();
        if (shape == NEITHER || what < 0 || what > 1) {
            return NONE;
        }
        return what == 0 ? current.start(shape) : current.finish(shape);
    }

    public long trees(int r) {
        return current.isUsed(r) ? treeTeller.count(current, r) : NONE;
    }

    public int tree(int r, int k) throws NoSuchElementException {
        int set = current.isUsed(r) ? treeTeller.ofNumber(current, r, k) : NONE;
        if (set == NONE) {
            throw new NoSuchElementException("no such tree");
        }
        return set;
    }

    public long walks() {
        return walker.count(current);
    }

    public int walk(long rank) throws NoSuchElementException {
        if (!walker.lookAtRank(current, rank)) {
            throw new NoSuchElementException("no walk of that rank");
        }
        return walker.seenAt(current.arcs - 1);
    }

    public int walkAt(int i) {
        return walker.seenAt(i);
    }

    public int lasts() {
        return walker.seenLasts;
    }

    public long rank() {
        long answer = walker.lookAtTape(current, tape);
        tape.cut(0);
        return answer;
    }

    public long by(int tree) {
        return walker.countLeavingBy(current, tree);
    }

    public long first(int tree) {
        return walker.firstLeavingBy(current, tree);
    }

    public long drawn(int seed) {
        long all = walker.count(current);
        if (all <= 0) {
            return NONE;
        }
        draws.begin(seed);
        long answer = draws.evenBelow(all);
        walker.lookAtRank(current, answer);
        return answer;
    }

    public long words() {
        long answer = speller.tell(tape);
        tape.cut(0);
        return answer;
    }

    public long wordRank() {
        return speller.toldRank;
    }

    public int word(long rank) throws NoSuchElementException {
        if (!speller.lookAtRank(rank)) {
            throw new NoSuchElementException("no word of that rank");
        }
        return speller.seenAt(speller.seenLength - 1);
    }

    public int letterAt(int i) {
        return speller.seenAt(i);
    }

    public int braid(int k, int n) {
        if (k < 1 || k > MOST_SIGNS || n < 1 || n > MOST_SIGNS) {
            return NONE;
        }
        int rows = 1;
        for (int i = 1; i < n; i++) {
            rows *= k;
        }
        if (rows * k > MOST_ARCS) {
            return NONE;
        }
        history.mark(current);
        current.weave(k, rows);
        history.keep();
        return current.arcs;
    }

    public int again() {
        if (current.arcs == 0 || !current.isStrong()) {
            return NONE;
        }
        return flow.fewestAgain(current);
    }

    public int lack() {
        if (current.arcs == 0 || !current.isJoined()) {
            return NONE;
        }
        int excess = 0;
        for (int p = 0; p < current.points; p++) {
            excess += Math.max(0, current.excess(p));
        }
        // One excess way out may stay: the net is open then.
        return Math.max(0, excess - 1);
    }

    public int righted(int what) {
        if (what < 0 || what > 1) {
            return NONE;
        }
        int set = flow.leastTurned(current);
        if (set == NONE) {
            return NONE;
        }
        return what == 0 ? Integer.bitCount(set) : set;
    }

    public int add(int from, int to) {
        if (!current.hasPoint(from) || !current.hasPoint(to) || current.arcs >= MOST_ARCS) {
            return NONE;
        }
        history.mark(current);
        current.append(from, to);
        history.keep();
        return current.arcs - 1;
    }

    public int drop(int k) {
        if (!current.hasArc(k)) {
            return NONE;
        }
        history.mark(current);
        current.remove(k);
        history.keep();
        return current.arcs;
    }

    public int turn(int k) {
        if (!current.hasArc(k)) {
            return NONE;
        }
        history.mark(current);
        current.flip(k);
        history.keep();
        return current.to[k];
    }

    public int deeds(int n, int seed) {
        if (n < 1 || n > MOST_DEEDS) {
            return NONE;
        }
        history.mark(current);
        draws.begin(seed);
        int done = 0;
        for (int i = 0; i < n; i++) {
            if (draws.doDeed(current)) {
                done++;
            }
        }
        if (done > 0) {
            history.keep();
        }
        return done;
    }

    public int undo() {
        return history.stepBack(current);
    }

    public boolean image(int k) {
        if (k < 0 || k >= PLACES) {
            return false;
        }
        images[k].copyFrom(current);
        kept[k] = true;
        return true;
    }

    public boolean restore(int k) {
        if (k < 0 || k >= PLACES || !kept[k]) {
            return false;
        }
        current.copyFrom(images[k]);
        history.forget();
        return true;
    }

    private static boolean inSet(int set, int k) {
        return (set >>> k & 1) != 0;
    }

    private static boolean isSmallLetter(int sign) {
        return sign >= 'a' && sign <= 'z';
    }

    /** Answers 1 outside its table, so that what it answers may always divide. */
    private static long factorial(int n) {
        return n >= 0 && n < FACTORIALS.length ? FACTORIALS[n] : 1L;
    }

    /** The bytes that were fed and not yet read. */
    private static final class Tape {
        private final int[] bytes = new int[TAPE_ROOM];
        private int size = 0;

        void push(int number) {
            for (int shift = 24; shift >= 0 && size < TAPE_ROOM; shift -= 8) {
                bytes[size] = number >>> shift & 255;
                size++;
            }
        }

        boolean cut(int length) {
            if (length < 0 || length > size) {
                return false;
            }
            size = length;
            return true;
        }

        int byteAt(int i) {
            return i >= 0 && i < size ? bytes[i] : NONE;
        }
    }

    /** Points 0 to points less 1, and arcs between them in their order. */
    private static final class Net {
        private final int[] from = new int[MOST_ARCS];
        private final int[] to = new int[MOST_ARCS];
        private int points = 0;
        private int arcs = 0;

        void copyFrom(Net other) {
            points = other.points;
            arcs = other.arcs;
            System.arraycopy(other.from, 0, from, 0, MOST_ARCS);
            System.arraycopy(other.to, 0, to, 0, MOST_ARCS);
        }

        /** The one way by which arcs come in, so both ends of all arcs are points. */
        void append(int start, int goal) {
            if (arcs < MOST_ARCS && hasPoint(start) && hasPoint(goal)) {
                from[arcs] = start;
                to[arcs] = goal;
                arcs++;
            }
        }

        void remove(int k) {
            if (!hasArc(k)) {
                return;
            }
            for (int i = k; i + 1 < arcs; i++) {
                from[i] = from[i + 1];
                to[i] = to[i + 1];
            }
            arcs--;
        }

        void flip(int k) {
            if (!hasArc(k)) {
                return;
            }
            int start = from[k];
            from[k] = to[k];
            to[k] = start;
        }

        /** Arcs are rows of signs; rows tells how many rows there are of one sign less. */
        void weave(int signs, int rows) {
            if (signs < 1 || rows < 1 || rows > MOST_POINTS) {
                return;
            }
            points = rows;
            arcs = 0;
            for (int row = 0; row < rows * signs; row++) {
                append(row / signs, row % rows);
            }
        }

        boolean hasPoint(int p) {
            return p >= 0 && p < points;
        }

        boolean hasArc(int k) {
            return k >= 0 && k < arcs;
        }

        int outOf(int p) {
            int many = 0;
            for (int k = 0; k < arcs; k++) {
                if (from[k] == p) {
                    many++;
                }
            }
            return many;
        }

        int into(int p) {
            int many = 0;
            for (int k = 0; k < arcs; k++) {
                if (to[k] == p) {
                    many++;
                }
            }
            return many;
        }

        int excess(int p) {
            return outOf(p) - into(p);
        }

        int usedPoints() {
            int set = 0;
            for (int k = 0; k < arcs; k++) {
                set |= 1 << from[k] | 1 << to[k];
            }
            return set;
        }

        boolean isUsed(int p) {
            return hasPoint(p) && inSet(usedPoints(), p);
        }

        int pointsWithExcess(int sign) {
            int set = 0;
            for (int p = 0; p < points; p++) {
                if (excess(p) * sign > 0) {
                    set |= 1 << p;
                }
            }
            return set;
        }

        boolean isJoined() {
            return arcs == 0 || spread(from[0], true, true) == usedPoints();
        }

        boolean isStrong() {
            if (arcs == 0) {
                return true;
            }
            int used = usedPoints();
            return spread(from[0], true, false) == used && spread(from[0], false, true) == used;
        }

        /** The points to which one comes from p by arcs gone forth, back, or both. */
        int spread(int p, boolean forth, boolean back) {
            int set = 1 << p;
            for (int round = 0; round < MOST_POINTS; round++) {
                int before = set;
                for (int k = 0; k < arcs; k++) {
                    if (forth && inSet(set, from[k])) {
                        set |= 1 << to[k];
                    }
                    if (back && inSet(set, to[k])) {
                        set |= 1 << from[k];
                    }
                }
                if (set == before) {
                    break;
                }
            }
            return set;
        }

        int shape() {
            if (arcs == 0 || !isJoined()) {
                return NEITHER;
            }
            int givers = 0;
            for (int p = 0; p < points; p++) {
                int excess = excess(p);
                if (excess > 1 || excess < -1) {
                    return NEITHER;
                }
                if (excess == 1) {
                    givers++;
                }
            }
            // All excesses sum up to 0, so takers need no count of their own.
            if (givers == 0) {
                return ROUND;
            }
            return givers == 1 ? OPEN : NEITHER;
        }

        int start(int shape) {
            return shape == ROUND ? from[0] : pointOfExcess(1);
        }

        int finish(int shape) {
            return shape == ROUND ? from[0] : pointOfExcess(-1);
        }

        private int pointOfExcess(int wanted) {
            for (int p = 0; p < points; p++) {
                if (excess(p) == wanted) {
                    return p;
                }
            }
            return 0;
        }
    }

    /** Reads the text of a net, token by token. */
    private static final class Reader {
        private static final int AT_ROW = 0;
        private static final int AT_NAME = 1;
        private static final int AT_START = 2;
        private static final int AT_GOAL = 3;
        private static final int AT_SIGN = 4;
        private static final int MOST_WORD = 7;
        // A word is told by one number, five bits a letter.
        private static final long POINT_WORD = (((16L * 32 + 15) * 32 + 9) * 32 + 14) * 32 + 20;
        private static final long ARC_WORD = (1L * 32 + 18) * 32 + 3;
        private static final long SIGN = 0L;
        private static final long NO_TOKEN = -1L;

        private final Net told = new Net();
        private final long[] names = new long[MOST_POINTS];
        private int place = 0;
        private int rows = 0;
        private int awaited = AT_ROW;
        private int startPoint = 0;
        private int faultKind = 0;

        /** How many rows there are, or -1 less the place of the fault. */
        int parse(Tape tape) {
            told.points = 0;
            told.arcs = 0;
            place = 0;
            rows = 0;
            awaited = AT_ROW;
            faultKind = 0;
            for (int token = 0; token <= TAPE_ROOM; token++) {
                skipBlanks(tape);
                if (tape.size > MOST_TEXT && place >= MOST_TEXT) {
                    return refuse(1, MOST_TEXT);
                }
                if (place >= tape.size) {
                    return awaited == AT_ROW ? rows : refuse(1, tape.size);
                }
                int begin = place;
                int wrong = accept(takeToken(tape));
                if (wrong != 0) {
                    return refuse(wrong, begin);
                }
            }
            return refuse(1, tape.size);
        }

        private int refuse(int kind, int where) {
            faultKind = kind;
            return -1 - where;
        }

        private void skipBlanks(Tape tape) {
            while (place < tape.size && (tape.byteAt(place) == 32 || tape.byteAt(place) == 10)) {
                place++;
            }
        }

        private long takeToken(Tape tape) {
            int sign = tape.byteAt(place);
            if (sign == ';') {
                place++;
                return SIGN;
            }
            int begin = place;
            long word = 0;
            while (place < tape.size && isSmallLetter(tape.byteAt(place))) {
                word = word * 32 + (tape.byteAt(place) - 'a' + 1);
                place++;
            }
            int length = place - begin;
            return length >= 1 && length <= MOST_WORD ? word : NO_TOKEN;
        }

        /** The kind of fault that a token makes, the least first; 0 for none. */
        private int accept(long token) {
            switch (awaited) {
                case AT_ROW:
                    return acceptRow(token);
                case AT_NAME:
                    return acceptName(token);
                case AT_START:
                case AT_GOAL:
                    return acceptPoint(token);
                default:
                    if (token != SIGN) {
                        return 1;
                    }
                    rows++;
                    awaited = AT_ROW;
                    return 0;
            }
        }

        private int acceptRow(long token) {
            if (token == POINT_WORD) {
                awaited = AT_NAME;
                return told.points < MOST_POINTS ? 0 : 3;
            }
            if (token == ARC_WORD) {
                awaited = AT_START;
                return told.arcs < MOST_ARCS ? 0 : 3;
            }
            return 1;
        }

        private int acceptName(long token) {
            if (!isName(token)) {
                return 1;
            }
            if (find(token) != NONE) {
                return 2;
            }
            if (told.points < MOST_POINTS) {
                names[told.points] = token;
                told.points++;
            }
            awaited = AT_SIGN;
            return 0;
        }

        private int acceptPoint(long token) {
            if (!isName(token)) {
                return 1;
            }
            int point = find(token);
            if (point == NONE) {
                return 2;
            }
            if (awaited == AT_START) {
                startPoint = point;
                awaited = AT_GOAL;
            } else {
                told.append(startPoint, point);
                awaited = AT_SIGN;
            }
            return 0;
        }

        private static boolean isName(long token) {
            return token > 0 && token != POINT_WORD && token != ARC_WORD;
        }

        private int find(long name) {
            for (int p = 0; p < told.points && p < MOST_POINTS; p++) {
                if (names[p] == name) {
                    return p;
                }
            }
            return NONE;
        }
    }

    /** The nets ahead of the latest acts, in a ring. */
    private static final class History {
        // One slot more than are kept: marking must not spoil the oldest one, should no act follow.
        private static final int SLOTS = MOST_ACTS + 1;

        private final Net[] slots = new Net[SLOTS];
        private int head = 0;
        private int size = 0;

        History() {
            for (int i = 0; i < SLOTS; i++) {
                slots[i] = new Net();
            }
        }

        void mark(Net net) {
            slots[head].copyFrom(net);
        }

        void keep() {
            head = (head + 1) % SLOTS;
            size = Math.min(size + 1, MOST_ACTS);
        }

        int stepBack(Net net) {
            if (size == 0) {
                return NONE;
            }
            head = (head + SLOTS - 1) % SLOTS;
            size--;
            net.copyFrom(slots[head]);
            return size;
        }

        void forget() {
            size = 0;
        }
    }

    /** How often each point leads to each other one; counts trees and trails by determinants. */
    private static final class Counter {
        private final int[][] ways = new int[MOST_POINTS][MOST_POINTS];
        private final int[] outs = new int[MOST_POINTS];
        private final long[][] grid = new long[MOST_POINTS][MOST_POINTS];
        private final int[] rows = new int[MOST_POINTS];

        void clear() {
            for (int p = 0; p < MOST_POINTS; p++) {
                outs[p] = 0;
                for (int q = 0; q < MOST_POINTS; q++) {
                    ways[p][q] = 0;
                }
            }
        }

        /** The arcs of a net that are in the set. */
        void load(Net net, int set) {
            clear();
            for (int k = 0; k < net.arcs; k++) {
                if (inSet(set, k)) {
                    shift(net.from[k], net.to[k], 1);
                }
            }
        }

        void shift(int p, int q, int by) {
            ways[p][q] += by;
            outs[p] += by;
        }

        /** How many trees lead from all the others to the root. */
        long treesTo(int root, int others) {
            int size = 0;
            for (int p = 0; p < MOST_POINTS; p++) {
                if (p != root && inSet(others, p)) {
                    rows[size] = p;
                    size++;
                }
            }
            for (int i = 0; i < size; i++) {
                int p = rows[i];
                for (int j = 0; j < size; j++) {
                    grid[i][j] = -ways[p][rows[j]];
                }
                grid[i][i] = outs[p] - ways[p][p];
            }
            return determinant(size);
        }

        private long determinant(int size) {
            long divisor = 1;
            for (int i = 0; i + 1 < size; i++) {
                long pivot = grid[i][i];
                // Some of the first points never get out from among them then, so no tree has them.
                if (pivot == 0) {
                    return 0;
                }
                for (int r = i + 1; r < size; r++) {
                    for (int c = i + 1; c < size; c++) {
                        grid[r][c] = (grid[r][c] * pivot - grid[r][i] * grid[i][c]) / divisor;
                    }
                }
                divisor = pivot;
            }
            return size == 0 ? 1 : grid[size - 1][size - 1];
        }

        /** How many rows of all arcs there are that end at a point, where degrees allow for them. */
        long trailsTo(int goal) {
            int others = 0;
            long orders = factorial(outs[goal]);
            for (int p = 0; p < MOST_POINTS; p++) {
                if (p != goal && outs[p] > 0) {
                    others |= 1 << p;
                    orders *= factorial(outs[p] - 1);
                }
            }
            return orders * treesTo(goal, others);
        }

        /** The same, where arcs between the same points are not told apart. */
        long spellingsTo(int goal) {
            long many = trailsTo(goal);
            for (int p = 0; p < MOST_POINTS && many != 0; p++) {
                for (int q = 0; q < MOST_POINTS; q++) {
                    many /= factorial(ways[p][q]);
                }
            }
            return many;
        }
    }

    /** The trees of a net that lead to a point. */
    private static final class Trees {
        private static final int ALL_ARCS = (1 << MOST_ARCS) - 1;

        private final Counter counter = new Counter();

        long count(Net net, int root) {
            return countWithin(net, root, ALL_ARCS);
        }

        private long countWithin(Net net, int root, int allowed) {
            counter.load(net, allowed);
            return counter.treesTo(root, net.usedPoints());
        }

        /** The tree that has so many ahead of it; NONE if there are not so many. */
        int ofNumber(Net net, int root, int number) {
            if (number < 0 || number >= count(net, root)) {
                return NONE;
            }
            int allowed = ALL_ARCS;
            int set = 0;
            long left = number;
            for (int k = net.arcs - 1; k >= 0; k--) {
                if (net.from[k] == root || !inSet(allowed, k)) {
                    continue;
                }
                long without = countWithin(net, root, allowed & ~(1 << k));
                if (left < without) {
                    allowed &= ~(1 << k);
                } else {
                    left -= without;
                    set |= 1 << k;
                    allowed = withOneFrom(net, allowed, k);
                }
            }
            return set;
        }

        private static int withOneFrom(Net net, int allowed, int chosen) {
            int set = allowed;
            for (int k = 0; k < net.arcs; k++) {
                if (k != chosen && net.from[k] == net.from[chosen]) {
                    set &= ~(1 << k);
                }
            }
            return set;
        }
    }

    /** The walks of a net, and the one that was looked at last. */
    private static final class Walker {
        private final Counter counter = new Counter();
        private final int[] path = new int[MOST_ARCS];
        private final int[] lastArc = new int[MOST_POINTS];
        private final int[] seen = new int[MOST_ARCS];
        private long rankLeft = 0;
        private int seenLength = 0;
        private int seenLasts = NONE;

        int seenAt(int i) {
            return i >= 0 && i < seenLength ? seen[i] : NONE;
        }

        long count(Net net) {
            int shape = net.shape();
            if (shape == NEITHER) {
                return 0;
            }
            counter.load(net, -1);
            if (shape == ROUND) {
                counter.shift(net.from[0], net.to[0], -1);
            }
            return counter.trailsTo(net.finish(shape));
        }

        boolean lookAtRank(Net net, long rank) {
            if (rank < 0 || rank >= count(net)) {
                return false;
            }
            int shape = net.shape();
            if (!buildPath(net, shape, rank)) {
                return false;
            }
            lookAtPath(net, net.finish(shape));
            return true;
        }

        private boolean buildPath(Net net, int shape, long rank) {
            int goal = net.finish(shape);
            int here = net.start(shape);
            int free = (1 << net.arcs) - 1;
            rankLeft = rank;
            counter.load(net, free);
            for (int i = 0; i < net.arcs; i++) {
                int k = chooseNext(net, here, free, goal);
                if (k == NONE) {
                    return false;
                }
                path[i] = k;
                free &= ~(1 << k);
                here = net.to[k];
            }
            return true;
        }

        /** The arc with which the walk of the rank that is left goes on; it is taken from the counter. */
        private int chooseNext(Net net, int here, int free, int goal) {
            for (int k = 0; k < net.arcs; k++) {
                if (!inSet(free, k) || net.from[k] != here) {
                    continue;
                }
                counter.shift(here, net.to[k], -1);
                // All walks that are left go by an only arc: no need to count them.
                if (counter.outs[here] == 0) {
                    return k;
                }
                long many = counter.trailsTo(goal);
                if (rankLeft < many) {
                    return k;
                }
                rankLeft -= many;
                counter.shift(here, net.to[k], 1);
            }
            return NONE;
        }

        private void lookAtPath(Net net, int goal) {
            for (int p = 0; p < MOST_POINTS; p++) {
                lastArc[p] = NONE;
            }
            for (int i = 0; i < net.arcs; i++) {
                seen[i] = path[i];
                lastArc[net.from[path[i]]] = path[i];
            }
            seenLength = net.arcs;
            seenLasts = 0;
            for (int p = 0; p < MOST_POINTS; p++) {
                if (p != goal && lastArc[p] != NONE) {
                    seenLasts |= 1 << lastArc[p];
                }
            }
        }

        /** The rank of the walk whose arcs the tape tells; NONE, and nothing is looked at. */
        long lookAtTape(Net net, Tape tape) {
            int shape = net.shape();
            if (shape == NEITHER || tape.size != net.arcs) {
                return NONE;
            }
            int here = net.start(shape);
            int free = (1 << net.arcs) - 1;
            for (int i = 0; i < net.arcs; i++) {
                int k = tape.byteAt(i);
                if (!net.hasArc(k) || !inSet(free, k) || net.from[k] != here) {
                    return NONE;
                }
                path[i] = k;
                free &= ~(1 << k);
                here = net.to[k];
            }
            if (shape == ROUND && path[0] != 0) {
                return NONE;
            }
            lookAtPath(net, net.finish(shape));
            return rankOfPath(net, shape);
        }

        private long rankOfPath(Net net, int shape) {
            int goal = net.finish(shape);
            int here = net.start(shape);
            int free = (1 << net.arcs) - 1;
            long ahead = 0;
            counter.load(net, free);
            for (int i = 0; i < net.arcs; i++) {
                for (int k = 0; k < path[i]; k++) {
                    if (inSet(free, k) && net.from[k] == here) {
                        counter.shift(here, net.to[k], -1);
                        ahead += counter.trailsTo(goal);
                        counter.shift(here, net.to[k], 1);
                    }
                }
                counter.shift(here, net.to[path[i]], -1);
                free &= ~(1 << path[i]);
                here = net.to[path[i]];
            }
            return ahead;
        }

        long countLeavingBy(Net net, int tree) {
            int shape = net.shape();
            if (shape == NEITHER || !takeLasts(net, net.finish(shape), tree)) {
                return 0;
            }
            int goal = net.finish(shape);
            long many = 1;
            for (int p = 0; p < net.points; p++) {
                int outs = net.outOf(p);
                // The first arc of a round walk is bound, the last of each point but the goal too.
                boolean oneIsBound = p != goal || shape == ROUND;
                many *= factorial(oneIsBound ? outs - 1 : outs);
            }
            return many;
        }

        long firstLeavingBy(Net net, int tree) {
            int shape = net.shape();
            if (shape == NEITHER || !takeLasts(net, net.finish(shape), tree)) {
                return NONE;
            }
            int here = net.start(shape);
            int free = (1 << net.arcs) - 1;
            for (int i = 0; i < net.arcs; i++) {
                int k = leastFree(net, here, free);
                if (k == NONE) {
                    return NONE;
                }
                path[i] = k;
                free &= ~(1 << k);
                here = net.to[k];
            }
            return rankOfPath(net, shape);
        }

        private int leastFree(Net net, int here, int free) {
            for (int k = 0; k < net.arcs; k++) {
                if (inSet(free, k) && net.from[k] == here && lastArc[here] != k) {
                    return k;
                }
            }
            int last = lastArc[here];
            return last != NONE && inSet(free, last) ? last : NONE;
        }

        /** Whether a set is a tree to the goal; then lastArc tells the arc of each point. */
        private boolean takeLasts(Net net, int goal, int tree) {
            for (int p = 0; p < MOST_POINTS; p++) {
                lastArc[p] = NONE;
            }
            for (int k = 0; k < 32; k++) {
                if (!inSet(tree, k)) {
                    continue;
                }
                if (!net.hasArc(k) || net.from[k] == goal || lastArc[net.from[k]] != NONE) {
                    return false;
                }
                lastArc[net.from[k]] = k;
            }
            int used = net.usedPoints();
            for (int p = 0; p < net.points; p++) {
                if (inSet(used, p) && !comesTo(net, p, goal)) {
                    return false;
                }
            }
            return true;
        }

        private boolean comesTo(Net net, int p, int goal) {
            int here = p;
            for (int step = 0; step < MOST_POINTS && here != goal; step++) {
                int k = lastArc[here];
                if (k == NONE) {
                    return false;
                }
                here = net.to[k];
            }
            return here == goal;
        }
    }

    /** The word that was told, those alike, and the one of them that was looked at last. */
    private static final class Speller {
        private final Counter counter = new Counter();
        private final int[] letters = new int[MOST_POINTS];
        private final int[] told = new int[MOST_LETTERS];
        private final int[] seen = new int[MOST_LETTERS];
        private int letterSet = 0;
        private int toldLength = 0;
        private int seenLength = 0;
        private long alike = 0;
        private long toldRank = NONE;

        int seenAt(int i) {
            return i >= 0 && i < seenLength ? seen[i] : NONE;
        }

        /** How many words are alike the one on the tape; NONE if that is none, and nothing is told. */
        long tell(Tape tape) {
            if (tape.size < 2 || tape.size > MOST_LETTERS) {
                return NONE;
            }
            int set = 0;
            for (int i = 0; i < tape.size; i++) {
                int letter = tape.byteAt(i);
                if (!isSmallLetter(letter)) {
                    return NONE;
                }
                set |= 1 << (letter - 'a');
            }
            if (Integer.bitCount(set) > MOST_POINTS) {
                return NONE;
            }
            takeLetters(set);
            toldLength = tape.size;
            for (int i = 0; i < toldLength; i++) {
                told[i] = indexOf(tape.byteAt(i));
            }
            loadTold();
            alike = counter.spellingsTo(goal());
            toldRank = countAhead();
            return alike;
        }

        private void takeLetters(int set) {
            letterSet = set;
            int many = 0;
            for (int i = 0; i < 26; i++) {
                if (inSet(set, i) && many < MOST_POINTS) {
                    letters[many] = 'a' + i;
                    many++;
                }
            }
        }

        private int indexOf(int letter) {
            return Integer.bitCount(letterSet & ((1 << (letter - 'a')) - 1));
        }

        private int goal() {
            return toldLength > 0 ? told[toldLength - 1] : 0;
        }

        private void loadTold() {
            counter.clear();
            for (int i = 0; i + 1 < toldLength; i++) {
                counter.shift(told[i], told[i + 1], 1);
            }
        }

        /** How many of those alike stand ahead of the told word; it must be loaded. */
        private long countAhead() {
            long ahead = 0;
            for (int i = 0; i + 1 < toldLength; i++) {
                int here = told[i];
                for (int q = 0; q < told[i + 1]; q++) {
                    ahead += spellingsOver(here, q);
                }
                counter.shift(here, told[i + 1], -1);
            }
            return ahead;
        }

        /** How many ways there are to go on if q comes next. */
        private long spellingsOver(int here, int q) {
            if (counter.ways[here][q] == 0) {
                return 0;
            }
            counter.shift(here, q, -1);
            long many = counter.spellingsTo(goal());
            counter.shift(here, q, 1);
            return many;
        }

        boolean lookAtRank(long rank) {
            if (rank < 0 || rank >= alike) {
                return false;
            }
            loadTold();
            long left = rank;
            int here = told[0];
            seen[0] = letters[here];
            for (int i = 1; i < toldLength; i++) {
                int q = 0;
                long many = spellingsOver(here, q);
                while (left >= many && q + 1 < MOST_POINTS) {
                    left -= many;
                    q++;
                    many = spellingsOver(here, q);
                }
                counter.shift(here, q, -1);
                here = q;
                seen[i] = letters[here];
            }
            seenLength = toldLength;
            return true;
        }
    }

    /** Sends what points have too much of along arcs to those that lack it, as cheaply as can be. */
    private static final class Flow {
        private static final int FAR = 1 << 28;

        private final int[] cost = new int[MOST_ARCS];
        private final int[] sent = new int[MOST_ARCS];
        private final int[] surplus = new int[MOST_POINTS];
        private final int[] distance = new int[MOST_POINTS];
        private final int[] via = new int[MOST_POINTS];
        private int room = 0;

        /** How many arcs must be gone again, at the fewest; NONE if it can't be. */
        int fewestAgain(Net net) {
            room = MOST_ARCS;
            for (int p = 0; p < net.points; p++) {
                surplus[p] = -net.excess(p);
            }
            for (int k = 0; k < net.arcs; k++) {
                cost[k] = 1;
                sent[k] = 0;
            }
            if (!sendAll(net)) {
                return NONE;
            }
            int many = 0;
            for (int k = 0; k < net.arcs; k++) {
                many += sent[k];
            }
            return many;
        }

        /** The least set of arcs that, turned, level all points; NONE if there is none. */
        int leastTurned(Net net) {
            room = 1;
            for (int p = 0; p < net.points; p++) {
                int excess = net.excess(p);
                if ((excess & 1) != 0) {
                    return NONE;
                }
                surplus[p] = excess / 2;
            }
            for (int k = 0; k < net.arcs; k++) {
                // How many counts first, the set's number behind it.
                cost[k] = (1 << MOST_ARCS) + (1 << k);
                sent[k] = 0;
            }
            if (!sendAll(net)) {
                return NONE;
            }
            int set = 0;
            for (int k = 0; k < net.arcs; k++) {
                if (sent[k] > 0) {
                    set |= 1 << k;
                }
            }
            return set;
        }

        private boolean sendAll(Net net) {
            for (int unit = 0; unit <= MOST_ARCS; unit++) {
                if (!hasSurplus(net)) {
                    return true;
                }
                findDistances(net);
                int goal = nearestLacking(net);
                if (goal == NONE) {
                    return false;
                }
                sendOne(net, goal);
            }
            return false;
        }

        private boolean hasSurplus(Net net) {
            for (int p = 0; p < net.points; p++) {
                if (surplus[p] > 0) {
                    return true;
                }
            }
            return false;
        }

        private void findDistances(Net net) {
            for (int p = 0; p < net.points; p++) {
                distance[p] = surplus[p] > 0 ? 0 : FAR;
                via[p] = NONE;
            }
            boolean changed = true;
            for (int round = 0; round < MOST_POINTS && changed; round++) {
                changed = false;
                for (int k = 0; k < net.arcs; k++) {
                    int p = net.from[k];
                    int q = net.to[k];
                    if (sent[k] < room && distance[p] < FAR && distance[p] + cost[k] < distance[q]) {
                        distance[q] = distance[p] + cost[k];
                        via[q] = k;
                        changed = true;
                    }
                    if (sent[k] > 0 && distance[q] < FAR && distance[q] - cost[k] < distance[p]) {
                        distance[p] = distance[q] - cost[k];
                        via[p] = k + MOST_ARCS;
                        changed = true;
                    }
                }
            }
        }

        private int nearestLacking(Net net) {
            int best = NONE;
            for (int p = 0; p < net.points; p++) {
                boolean fits = surplus[p] < 0 && distance[p] < FAR;
                if (fits && (best == NONE || distance[p] < distance[best])) {
                    best = p;
                }
            }
            return best;
        }

        private void sendOne(Net net, int goal) {
            int here = goal;
            for (int step = 0; step < MOST_POINTS && via[here] != NONE; step++) {
                int k = via[here];
                if (k < MOST_ARCS) {
                    sent[k]++;
                    here = net.from[k];
                } else {
                    sent[k - MOST_ARCS]--;
                    here = net.to[k - MOST_ARCS];
                }
            }
            surplus[here]--;
            surplus[goal]++;
        }
    }

    /** The row of draws that a seed begins. */
    private static final class Draws {
        private static final long DRAWN_BELOW = 1L << 62;
        private static final int MOST_TRIES = 1000000;

        private int state = 0;

        void begin(int seed) {
            state = seed;
        }

        private int draw() {
            state = state * 1103515245 + 12345;
            return state >>> 8;
        }

        private long wideDraw() {
            long high = draw() % 16384;
            long middle = draw();
            long low = draw();
            return high << 48 | middle << 24 | low;
        }

        /** A number below many, each as likely as each other. */
        long evenBelow(long many) {
            if (many <= 0) {
                return 0;
            }
            long bound = DRAWN_BELOW / many * many;
            long number = wideDraw();
            for (int tries = 0; tries < MOST_TRIES && number >= bound; tries++) {
                number = wideDraw();
            }
            return number % many;
        }

        /** Whether a deed was done on the net. */
        boolean doDeed(Net net) {
            int choice = draw() % 4;
            if (choice > 1) {
                return doAppend(net);
            }
            if (net.arcs <= 0) {
                return false;
            }
            int k = draw() % net.arcs;
            if (choice == 0) {
                net.remove(k);
            } else {
                net.flip(k);
            }
            return true;
        }

        private boolean doAppend(Net net) {
            if (net.points <= 0 || net.arcs >= MOST_ARCS) {
                return false;
            }
            int start = draw() % net.points;
            int goal = draw() % net.points;
            net.append(start, goal);
            return true;
        }
    }
}
