import java.math.BigInteger;
import java.util.ArrayDeque;
import java.util.ArrayList;
import java.util.Arrays;
import java.util.HashMap;
import java.util.List;
import java.util.Map;
import java.util.NoSuchElementException;
import java.util.TreeMap;
import java.util.TreeSet;

/** The document said again as plainly as can be, by trying all there is: slow, and without the class's formulas (but for lack() of many arcs). */
final class Model {
    private String tape = "";
    private int points = 0;
    private List<int[]> arcs = new ArrayList<>();
    private int latestFault = 0;
    private final ArrayDeque<Object[]> acts = new ArrayDeque<>();
    private final Object[][] images = new Object[2][];
    private List<Integer> seen = null;
    private int seenLasts = -1;
    private String told = null;
    private String seenWord = null;
    private final Map<String, Long> spelled = new HashMap<>();

    int feed(int a, int b, int c, int d, int e) {
        if (tape.length() + 20 > 540) {
            return -1;
        }
        StringBuilder more = new StringBuilder(tape);
        for (int number : new int[] {a, b, c, d, e}) {
            more.append((char) (number >>> 24)).append((char) (number >> 16 & 255));
            more.append((char) (number >> 8 & 255)).append((char) (number & 255));
        }
        tape = more.toString();
        return tape.length();
    }

    boolean end(int n) {
        if (n < 0 || n > tape.length()) {
            return false;
        }
        tape = tape.substring(0, n);
        return true;
    }

    // ---- the text: all faults are gathered, the first and least is told

    int net() {
        String text = tape;
        tape = "";
        TreeMap<Integer, TreeSet<Integer>> faults = new TreeMap<>();
        List<String> names = new ArrayList<>();
        List<int[]> lines = new ArrayList<>();
        int rows = 0;
        int place = 0;
        List<String> row = new ArrayList<>();
        while (faults.isEmpty()) {
            while (place < text.length() && (text.charAt(place) == ' ' || text.charAt(place) == '\n')) {
                place++;
            }
            if (place >= Math.min(500, text.length())) {
                break;
            }
            int stop = place;
            while (stop < text.length() && text.charAt(stop) >= 'a' && text.charAt(stop) <= 'z') {
                stop++;
            }
            if (stop == place) {
                stop++;
            }
            String token = text.substring(place, stop);
            boolean isWord = token.matches("[a-z]{1,7}");
            boolean isName = isWord && !token.equals("point") && !token.equals("arc");
            int at = row.size();
            String head = at == 0 ? "" : row.get(0);
            boolean mayCome;
            if (at == 0) {
                mayCome = token.equals("point") || token.equals("arc");
            } else if (at == (head.equals("point") ? 2 : 3)) {
                mayCome = token.equals(";");
            } else {
                mayCome = isName;
            }
            if (!mayCome) {
                fault(faults, place, 1);
            }
            if (isName && at > 0 && head.equals("point") == names.contains(token)) {
                fault(faults, place, 2);
            }
            if (at == 0 && token.equals("point") && names.size() == 8) {
                fault(faults, place, 3);
            }
            if (at == 0 && token.equals("arc") && lines.size() == 16) {
                fault(faults, place, 3);
            }
            row.add(token);
            place = stop;
            if (faults.isEmpty() && token.equals(";")) {
                rows++;
                if (head.equals("point")) {
                    names.add(row.get(1));
                } else {
                    lines.add(new int[] {names.indexOf(row.get(1)), names.indexOf(row.get(2))});
                }
                row.clear();
            }
        }
        if (text.length() > 500) {
            fault(faults, 500, 1);
        } else if (!row.isEmpty()) {
            fault(faults, text.length(), 1);
        }
        if (!faults.isEmpty()) {
            latestFault = faults.firstEntry().getValue().first();
            return -1 - faults.firstKey();
        }
        latestFault = 0;
        points = names.size();
        arcs = lines;
        acts.clear();
        return rows;
    }

    private static void fault(TreeMap<Integer, TreeSet<Integer>> faults, int place, int kind) {
        faults.computeIfAbsent(place, p -> new TreeSet<>()).add(kind);
    }

    int fault() {
        return latestFault;
    }

    // ---- the net as it is

    private int out(int p) {
        return (int) arcs.stream().filter(a -> a[0] == p).count();
    }

    private int in(int p) {
        return (int) arcs.stream().filter(a -> a[1] == p).count();
    }

    private boolean used(int p) {
        return out(p) + in(p) > 0;
    }

    /** Shortest ways by Floyd and Warshall; 99 where there is none. */
    private int[][] ways(boolean bothWays) {
        int[][] ways = new int[8][8];
        for (int[] row : ways) {
            Arrays.fill(row, 99);
        }
        for (int p = 0; p < 8; p++) {
            ways[p][p] = 0;
        }
        for (int[] a : arcs) {
            ways[a[0]][a[1]] = Math.min(ways[a[0]][a[1]], 1);
            if (bothWays) {
                ways[a[1]][a[0]] = Math.min(ways[a[1]][a[0]], 1);
            }
        }
        for (int m = 0; m < 8; m++) {
            for (int p = 0; p < 8; p++) {
                for (int q = 0; q < 8; q++) {
                    ways[p][q] = Math.min(ways[p][q], ways[p][m] + ways[m][q]);
                }
            }
        }
        return ways;
    }

    private boolean connected(boolean bothWays) {
        int[][] ways = ways(bothWays);
        for (int p = 0; p < points; p++) {
            for (int q = 0; q < points; q++) {
                if (used(p) && used(q) && ways[p][q] >= 99) {
                    return false;
                }
            }
        }
        return true;
    }

    int now(int what) {
        int set = 0;
        switch (what) {
            case 0: return points;
            case 1: return arcs.size();
            case 2:
                for (int p = 0; p < points; p++) {
                    set += used(p) ? 1 << p : 0;
                }
                return set;
            case 3: return connected(true) ? 1 : 0;
            case 4:
                for (int p = 0; p < points; p++) {
                    set += out(p) > in(p) ? 1 << p : 0;
                }
                return set;
            case 5:
                for (int p = 0; p < points; p++) {
                    set += out(p) < in(p) ? 1 << p : 0;
                }
                return set;
            case 6: return connected(false) ? 1 : 0;
            case 7: return acts.size();
            case 8: return tape.length();
            default: return -1;
        }
    }

    int arc(int k, int what) {
        if (k < 0 || k >= arcs.size() || what < 0 || what > 1) {
            throw new NoSuchElementException();
        }
        return arcs.get(k)[what];
    }

    int degree(int p, int what) {
        if (p < 0 || p >= points || what < 0 || what > 1) {
            throw new NoSuchElementException();
        }
        return what == 0 ? out(p) : in(p);
    }

    int kind() {
        if (arcs.isEmpty() || !connected(true)) {
            return 0;
        }
        int more = 0;
        int less = 0;
        for (int p = 0; p < points; p++) {
            int d = out(p) - in(p);
            if (d == 1) {
                more++;
            } else if (d == -1) {
                less++;
            } else if (d != 0) {
                return 0;
            }
        }
        if (more == 0 && less == 0) {
            return 1;
        }
        return more == 1 && less == 1 ? 2 : 0;
    }

    int ends(int what) {
        int kind = kind();
        if (kind == 0 || what < 0 || what > 1) {
            return -1;
        }
        for (int p = 0; kind == 2 && p < points; p++) {
            if (out(p) - in(p) == (what == 0 ? 1 : -1)) {
                return p;
            }
        }
        return arcs.get(0)[0];
    }

    // ---- trees: all choices of one arc a point

    private TreeSet<Integer> allTrees(int r) {
        TreeSet<Integer> all = new TreeSet<>();
        gatherTrees(r, 0, 0, all);
        return all;
    }

    private void gatherTrees(int r, int p, int set, TreeSet<Integer> all) {
        if (p == points) {
            if (isTree(r, set)) {
                all.add(set);
            }
        } else if (p == r || !used(p)) {
            gatherTrees(r, p + 1, set, all);
        } else {
            for (int k = 0; k < arcs.size(); k++) {
                if (arcs.get(k)[0] == p) {
                    gatherTrees(r, p + 1, set | 1 << k, all);
                }
            }
        }
    }

    private boolean isTree(int r, int set) {
        boolean[] home = new boolean[8];
        home[r] = true;
        for (int times = 0; times < 8; times++) {
            for (int k = 0; k < arcs.size(); k++) {
                if ((set >> k & 1) == 1 && home[arcs.get(k)[1]]) {
                    home[arcs.get(k)[0]] = true;
                }
            }
        }
        for (int p = 0; p < points; p++) {
            if (used(p) && !home[p]) {
                return false;
            }
        }
        return true;
    }

    long trees(int r) {
        return r < 0 || r >= points || !used(r) ? -1 : allTrees(r).size();
    }

    int tree(int r, int k) {
        if (r < 0 || r >= points || !used(r) || k < 0 || k >= allTrees(r).size()) {
            throw new NoSuchElementException();
        }
        return new ArrayList<>(allTrees(r)).get(k);
    }

    // ---- walks: how many go on, for each set of arcs that were gone

    private static final int ANY = -1;

    /** How many ways to go all arcs there are, if those of the set are gone and one is at a point. */
    private long goOn(int gone, int here, int goal, int tree, long[] known) {
        if (gone == (1 << arcs.size()) - 1) {
            return here == goal ? 1 : 0;
        }
        if (known[gone] >= 0) {
            return known[gone];
        }
        long sum = 0;
        for (int k = 0; k < arcs.size(); k++) {
            if (mayGo(gone, here, k, goal, tree)) {
                sum += goOn(gone | 1 << k, arcs.get(k)[1], goal, tree, known);
            }
        }
        known[gone] = sum;
        return sum;
    }

    private boolean mayGo(int gone, int here, int k, int goal, int tree) {
        if ((gone >> k & 1) == 1 || arcs.get(k)[0] != here || (gone == 0 && kind() == 1 && k != 0)) {
            return false;
        }
        if (tree == ANY || here == goal) {
            return true;
        }
        int others = 0;
        for (int j = 0; j < arcs.size(); j++) {
            if (j != k && arcs.get(j)[0] == here && (gone >> j & 1) == 0) {
                others++;
            }
        }
        return (others == 0) == ((tree >> k & 1) == 1);
    }

    private long[] fresh() {
        long[] known = new long[1 << arcs.size()];
        Arrays.fill(known, -1);
        return known;
    }

    long walks() {
        return kind() == 0 ? 0 : goOn(0, ends(0), ends(1), ANY, fresh());
    }

    private List<Integer> walkOf(long rank, int tree) {
        long[] known = fresh();
        int goal = ends(1);
        List<Integer> row = new ArrayList<>();
        int gone = 0;
        int here = ends(0);
        long left = rank;
        while (row.size() < arcs.size()) {
            for (int k = 0; k < arcs.size(); k++) {
                if (!mayGo(gone, here, k, goal, tree)) {
                    continue;
                }
                long many = goOn(gone | 1 << k, arcs.get(k)[1], goal, tree, known);
                if (left < many) {
                    row.add(k);
                    gone |= 1 << k;
                    here = arcs.get(k)[1];
                    break;
                }
                left -= many;
            }
        }
        return row;
    }

    private long rankOf(List<Integer> row) {
        long[] known = fresh();
        int goal = ends(1);
        int gone = 0;
        int here = ends(0);
        long ahead = 0;
        for (int k : row) {
            for (int j = 0; j < k; j++) {
                if (mayGo(gone, here, j, goal, ANY)) {
                    ahead += goOn(gone | 1 << j, arcs.get(j)[1], goal, ANY, known);
                }
            }
            if (!mayGo(gone, here, k, goal, ANY)) {
                return -1;
            }
            gone |= 1 << k;
            here = arcs.get(k)[1];
        }
        return ahead;
    }

    private void look(List<Integer> row) {
        seen = row;
        seenLasts = 0;
        for (int i = 0; i < row.size(); i++) {
            int p = arcs.get(row.get(i))[0];
            boolean last = true;
            for (int j = i + 1; j < row.size(); j++) {
                last &= arcs.get(row.get(j))[0] != p;
            }
            if (last && p != ends(1)) {
                seenLasts |= 1 << row.get(i);
            }
        }
    }

    int walk(long rank) {
        if (rank < 0 || rank >= walks()) {
            throw new NoSuchElementException();
        }
        look(walkOf(rank, ANY));
        return seen.get(seen.size() - 1);
    }

    int walkAt(int i) {
        return seen == null || i < 0 || i >= seen.size() ? -1 : seen.get(i);
    }

    int lasts() {
        return seenLasts;
    }

    long rank() {
        String text = tape;
        tape = "";
        if (kind() == 0 || text.length() != arcs.size()) {
            return -1;
        }
        List<Integer> row = new ArrayList<>();
        for (int i = 0; i < text.length(); i++) {
            if (text.charAt(i) >= arcs.size()) {
                return -1;
            }
            row.add((int) text.charAt(i));
        }
        long rank = rankOf(row);
        if (rank >= 0) {
            look(row);
        }
        return rank;
    }

    long by(int tree) {
        if (kind() == 0 || tree < 0 || tree >= 1 << arcs.size()) {
            return 0;
        }
        int lefts = 0;
        for (int p = 0; p < points; p++) {
            lefts += used(p) && p != ends(1) ? 1 : 0;
        }
        // A walk has one last arc a point, so sets of another size, or with the end's arcs, are none's.
        if (Integer.bitCount(tree) != lefts) {
            return 0;
        }
        for (int k = 0; k < arcs.size(); k++) {
            if ((tree >> k & 1) == 1 && arcs.get(k)[0] == ends(1)) {
                return 0;
            }
        }
        return goOn(0, ends(0), ends(1), tree, fresh());
    }

    long first(int tree) {
        return by(tree) == 0 ? -1 : rankOf(walkOf(0, tree));
    }

    long drawn(int seed) {
        long all = walks();
        if (all == 0) {
            return -1;
        }
        BigInteger many = BigInteger.valueOf(all);
        BigInteger top = BigInteger.ONE.shiftLeft(62);
        BigInteger bound = top.subtract(top.mod(many));
        int s = seed;
        while (true) {
            BigInteger n = BigInteger.ZERO;
            for (int i = 0; i < 3; i++) {
                s = s * 1103515245 + 12345;
                int draw = s >>> 8;
                n = n.multiply(BigInteger.valueOf(1 << 24)).add(BigInteger.valueOf(i == 0 ? draw % 16384 : draw));
            }
            if (n.compareTo(bound) < 0) {
                long rank = n.mod(many).longValueExact();
                look(walkOf(rank, ANY));
                return rank;
            }
        }
    }

    // ---- words: all spellings, by how often each pair is left

    private Map<String, Integer> pairs(String word) {
        Map<String, Integer> pairs = new TreeMap<>();
        for (int i = 0; i + 1 < word.length(); i++) {
            pairs.merge(word.substring(i, i + 2), 1, Integer::sum);
        }
        return pairs;
    }

    private long spell(char here, Map<String, Integer> left) {
        if (left.isEmpty()) {
            return 1;
        }
        String state = here + left.toString();
        Long known = spelled.get(state);
        if (known != null) {
            return known;
        }
        long sum = 0;
        for (String pair : new ArrayList<>(left.keySet())) {
            if (pair.charAt(0) == here) {
                sum += spell(pair.charAt(1), less(left, pair));
            }
        }
        spelled.put(state, sum);
        return sum;
    }

    private static Map<String, Integer> less(Map<String, Integer> left, String pair) {
        Map<String, Integer> rest = new TreeMap<>(left);
        rest.merge(pair, -1, (a, b) -> a + b == 0 ? null : a + b);
        return rest;
    }

    long words() {
        String text = tape;
        tape = "";
        if (!text.matches("[a-z]{2,17}") || text.chars().distinct().count() > 8) {
            return -1;
        }
        told = text;
        spelled.clear();
        return spell(told.charAt(0), pairs(told));
    }

    long wordRank() {
        if (told == null) {
            return -1;
        }
        long ahead = 0;
        Map<String, Integer> left = pairs(told);
        for (int i = 0; i + 1 < told.length(); i++) {
            for (String pair : left.keySet()) {
                if (pair.charAt(0) == told.charAt(i) && pair.charAt(1) < told.charAt(i + 1)) {
                    ahead += spell(pair.charAt(1), less(left, pair));
                }
            }
            left = less(left, told.substring(i, i + 2));
        }
        return ahead;
    }

    int word(long rank) {
        if (told == null || rank < 0 || rank >= spell(told.charAt(0), pairs(told))) {
            throw new NoSuchElementException();
        }
        StringBuilder row = new StringBuilder().append(told.charAt(0));
        Map<String, Integer> left = pairs(told);
        long more = rank;
        while (!left.isEmpty()) {
            for (String pair : left.keySet()) {
                if (pair.charAt(0) != row.charAt(row.length() - 1)) {
                    continue;
                }
                long many = spell(pair.charAt(1), less(left, pair));
                if (more < many) {
                    row.append(pair.charAt(1));
                    left = less(left, pair);
                    break;
                }
                more -= many;
            }
        }
        seenWord = row.toString();
        return seenWord.charAt(seenWord.length() - 1);
    }

    int letterAt(int i) {
        return seenWord == null || i < 0 || i >= seenWord.length() ? -1 : seenWord.charAt(i);
    }

    // ---- what is needed for walks

    /** Each arc that one comes to too often is matched with one that is left too often, in all ways. */
    int again() {
        if (arcs.isEmpty() || !connected(false)) {
            return -1;
        }
        List<Integer> starts = new ArrayList<>();
        List<Integer> goals = new ArrayList<>();
        for (int p = 0; p < points; p++) {
            for (int i = 0; i < in(p) - out(p); i++) {
                starts.add(p);
            }
            for (int i = 0; i < out(p) - in(p); i++) {
                goals.add(p);
            }
        }
        int[][] ways = ways(false);
        int[] best = new int[1 << goals.size()];
        Arrays.fill(best, 9999);
        best[0] = 0;
        for (int set = 0; set < best.length; set++) {
            int start = Integer.bitCount(set);
            for (int j = 0; j < goals.size() && start < starts.size(); j++) {
                if ((set >> j & 1) == 0) {
                    int then = set | 1 << j;
                    best[then] = Math.min(best[then], best[set] + ways[starts.get(start)][goals.get(j)]);
                }
            }
        }
        return best[best.length - 1];
    }

    int lack() {
        if (arcs.isEmpty() || !connected(true)) {
            return -1;
        }
        for (int fewest = 0; triesAll(fewest); fewest++) {
            if (walksWith(fewest)) {
                return fewest;
            }
        }
        // The rest would be too many to try one by one: each arc levels one way in and one way out.
        int more = 0;
        for (int p = 0; p < points; p++) {
            more += Math.abs(out(p) - in(p));
        }
        return more / 2 - 1;
    }

    /** Whether there are so few ways to add so many arcs that lack() tries them all. */
    boolean triesAll(int more) {
        return more <= 6 && Math.pow(points * points, more) <= 5000;
    }

    /** Tries all arcs that can be added, so many times. */
    private boolean walksWith(int more) {
        if (more == 0) {
            return kind() != 0;
        }
        boolean fine = false;
        for (int p = 0; p < points && !fine; p++) {
            for (int q = 0; q < points && !fine; q++) {
                arcs.add(new int[] {p, q});
                fine = walksWith(more - 1);
                arcs.remove(arcs.size() - 1);
            }
        }
        return fine;
    }

    int righted(int what) {
        int best = -1;
        for (int set = 0; set < 1 << arcs.size(); set++) {
            if (best >= 0 && Integer.bitCount(set) >= Integer.bitCount(best)) {
                continue;
            }
            int[] more = new int[8];
            for (int k = 0; k < arcs.size(); k++) {
                int sign = (set >> k & 1) == 1 ? -1 : 1;
                more[arcs.get(k)[0]] += sign;
                more[arcs.get(k)[1]] -= sign;
            }
            if (Arrays.equals(more, new int[8])) {
                best = set;
            }
        }
        if (what < 0 || what > 1 || best < 0) {
            return -1;
        }
        return what == 0 ? Integer.bitCount(best) : best;
    }

    // ---- acts

    private Object[] state() {
        List<int[]> copy = new ArrayList<>();
        for (int[] a : arcs) {
            copy.add(a.clone());
        }
        return new Object[] {points, copy};
    }

    @SuppressWarnings("unchecked")
    private void put(Object[] state) {
        points = (Integer) state[0];
        arcs = new ArrayList<>();
        for (int[] a : (List<int[]>) state[1]) {
            arcs.add(a.clone());
        }
    }

    private void keep(Object[] before) {
        acts.addLast(before);
        if (acts.size() > 8) {
            acts.removeFirst();
        }
    }

    int braid(int k, int n) {
        if (k < 1 || k > 4 || n < 1 || n > 4 || Math.pow(k, n) > 16) {
            return -1;
        }
        keep(state());
        List<String> rows = List.of("");
        List<String> shorter = rows;
        for (int i = 0; i < n; i++) {
            shorter = rows;
            rows = new ArrayList<>();
            for (String row : shorter) {
                for (int sign = 0; sign < k; sign++) {
                    rows.add(row + sign);
                }
            }
        }
        points = shorter.size();
        arcs = new ArrayList<>();
        for (String row : rows) {
            arcs.add(new int[] {shorter.indexOf(row.substring(0, n - 1)), shorter.indexOf(row.substring(1))});
        }
        return arcs.size();
    }

    int add(int from, int to) {
        if (arcs.size() == 16 || from < 0 || to < 0 || from >= points || to >= points) {
            return -1;
        }
        keep(state());
        arcs.add(new int[] {from, to});
        return arcs.size() - 1;
    }

    int drop(int k) {
        if (k < 0 || k >= arcs.size()) {
            return -1;
        }
        keep(state());
        arcs.remove(k);
        return arcs.size();
    }

    int turn(int k) {
        if (k < 0 || k >= arcs.size()) {
            return -1;
        }
        keep(state());
        int[] a = arcs.get(k);
        arcs.set(k, new int[] {a[1], a[0]});
        return a[0];
    }

    int deeds(int n, int seed) {
        if (n < 1 || n > 60) {
            return -1;
        }
        Object[] before = state();
        int[] s = {seed};
        int done = 0;
        for (int i = 0; i < n; i++) {
            int act = draw(s) % 4;
            if (act < 2 && !arcs.isEmpty()) {
                int k = draw(s) % arcs.size();
                int[] a = arcs.remove(k);
                if (act == 1) {
                    arcs.add(k, new int[] {a[1], a[0]});
                }
                done++;
            } else if (act >= 2 && points > 0 && arcs.size() < 16) {
                arcs.add(new int[] {draw(s) % points, draw(s) % points});
                done++;
            }
        }
        if (done > 0) {
            keep(before);
        }
        return done;
    }

    private static int draw(int[] s) {
        s[0] = s[0] * 1103515245 + 12345;
        return s[0] >>> 8;
    }

    int undo() {
        if (acts.isEmpty()) {
            return -1;
        }
        put(acts.removeLast());
        return acts.size();
    }

    boolean image(int k) {
        if (k != 0 && k != 1) {
            return false;
        }
        images[k] = state();
        return true;
    }

    boolean restore(int k) {
        if (k != 0 && k != 1 || images[k] == null) {
            return false;
        }
        put(images[k]);
        acts.clear();
        return true;
    }
}
