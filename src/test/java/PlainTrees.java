import java.util.ArrayList;
import java.util.Arrays;
import java.util.Comparator;
import java.util.List;
import java.util.Map;
import java.util.TreeMap;

/**
 * The document said again in the plainest way, without any thought of speed: every answer is found
 * anew from all sets of lines. The random test holds LimitTrees against it.
 */
public final class PlainTrees {
    private record Line(int a, int b, int colour) { }

    private int posts;
    private int root;
    private final List<Line> lines = new ArrayList<>();
    private final List<Integer> prices = new ArrayList<>();
    private final List<Boolean> cuts = new ArrayList<>();
    private final int[] degrees = new int[8];
    private final int[] demands = new int[8];
    private int depth;
    private int load;
    private int redsFrom;
    private int redsTo;
    private int way;

    public PlainTrees() {
        posts(2);
    }

    public boolean posts(int n) {
        if (n < 2 || n > 8) return false;
        posts = n;
        root = 0;
        lines.clear();
        prices.clear();
        cuts.clear();
        Arrays.fill(degrees, 14);
        Arrays.fill(demands, 1);
        depth = 7;
        load = 9999;
        redsFrom = 0;
        redsTo = 14;
        way = 9999;
        return true;
    }

    public int line(int a, int b, int price, int colour) {
        if (!isPost(a) || !isPost(b) || a == b) return -1;
        if (price < 0 || price > 999 || colour < 0 || colour > 1 || lines.size() == 14) return -1;
        lines.add(new Line(a, b, colour));
        prices.add(price);
        cuts.add(false);
        return lines.size() - 1;
    }

    public boolean cut(int e, boolean is) {
        if (!isLine(e) || cuts.get(e) == is) return false;
        cuts.set(e, is);
        return true;
    }

    public boolean price(int e, int n) {
        if (!isLine(e) || n < 0 || n > 999) return false;
        prices.set(e, n);
        return true;
    }

    public boolean degree(int v, int n) {
        if (!isPost(v) || n < 0 || n > 14) return false;
        degrees[v] = n;
        return true;
    }

    public boolean depth(int n) {
        if (n < 0 || n > 7) return false;
        depth = n;
        return true;
    }

    public boolean root(int v) {
        if (!isPost(v)) return false;
        root = v;
        return true;
    }

    public boolean load(int n) {
        if (n < 0 || n > 9999) return false;
        load = n;
        return true;
    }

    public boolean demand(int v, int n) {
        if (!isPost(v) || n < 0 || n > 99) return false;
        demands[v] = n;
        return true;
    }

    public boolean reds(int from, int to) {
        if (from < 0 || from > 14 || to < 0 || to > 14 || to < from) return false;
        redsFrom = from;
        redsTo = to;
        return true;
    }

    public boolean way(int n) {
        if (n < 0 || n > 9999) return false;
        way = n;
        return true;
    }

    public int tree(int set) {
        if (set < 0 || set >= Math.pow(2, lines.size())) return -1;
        return isTree(set) ? 1 : 0;
    }

    public int breaks(int set) {
        if (tree(set) != 1) return -1;
        int broken = 0;
        for (int limit = 0; limit < 5; limit++) {
            if (!holds(set, limit)) broken += 1 << limit;
        }
        return broken;
    }

    public int measure(int set, int what) {
        if (tree(set) != 1) return -1;
        int most = 0;
        switch (what) {
            case 0:
                for (int e = 0; e < lines.size(); e++) if (has(set, e)) most += prices.get(e);
                return most;
            case 1:
                for (int v = 0; v < posts; v++) most = Math.max(most, degreeIn(set, v));
                return most;
            case 2:
                for (int v = 0; v < posts; v++) most = Math.max(most, pathToRoot(set, v).size());
                return most;
            case 3:
                for (int e = 0; e < lines.size(); e++) most = Math.max(most, hangingOn(set, e));
                return most;
            case 4:
                for (int e = 0; e < lines.size(); e++) if (has(set, e)) most += lines.get(e).colour();
                return most;
            case 5:
                for (int v = 0; v < posts; v++) most = Math.max(most, priceOf(pathToRoot(set, v)));
                return most;
            default:
                return -1;
        }
    }

    public int many() {
        return goodTrees().size();
    }

    public int good(int i) {
        return at(goodTrees(), i);
    }

    public int ranked(int i) {
        return at(rankedTrees(), i);
    }

    public int slack(int e) {
        List<Integer> row = rankedTrees();
        if (row.isEmpty() || !isLine(e) || cuts.get(e)) return -1;
        int best = row.get(0);
        int other = -1;
        for (int set : row) {
            if (has(set, e) == has(best, e)) continue;
            int more = measure(set, 0) - measure(best, 0);
            if (other == -1 || more < other) other = more;
        }
        return other;
    }

    public int bar() {
        if (!goodTrees().isEmpty()) return -1;
        int best = -1;
        for (int asked = 0; asked < 32; asked++) {
            boolean none = true;
            for (int set : allTrees()) {
                boolean passes = true;
                for (int limit = 0; limit < 5; limit++) {
                    if ((asked >> limit) % 2 == 1 && !holds(set, limit)) passes = false;
                }
                if (passes) none = false;
            }
            if (none && (best == -1 || Integer.bitCount(asked) < Integer.bitCount(best))) best = asked;
        }
        return best;
    }

    public int front(int i, int what) {
        List<Integer> row = new ArrayList<>();
        List<Integer> trees = goodTrees();
        int[] price = trees.stream().mapToInt(t -> measure(t, 0)).toArray();
        int[] sum = trees.stream().mapToInt(t -> measure(t, 5)).toArray();
        for (int x = 0; x < trees.size(); x++) {
            boolean beaten = false;
            for (int y = 0; y < trees.size(); y++) {
                boolean noWorse = price[y] <= price[x] && sum[y] <= sum[x];
                boolean better = price[y] < price[x] || sum[y] < sum[x];
                if (noWorse && (better || y < x)) beaten = true;
            }
            if (!beaten) row.add(trees.get(x));
        }
        row.sort(Comparator.comparingInt(t -> measure(t, 0)));
        int set = at(row, i);
        if (set == -1 || what < 0 || what > 2) return -1;
        return what == 0 ? set : measure(set, what == 1 ? 0 : 5);
    }

    public int swaps(int a, int b) {
        List<Integer> row = leastRow(a, b);
        return row == null ? -1 : row.size() - 1;
    }

    public int step(int a, int b, int i) {
        List<Integer> row = leastRow(a, b);
        return row == null ? -1 : at(row, i);
    }

    public int look(int e, int what) {
        if (!isLine(e)) return -1;
        switch (what) {
            case 0: return lines.get(e).a();
            case 1: return lines.get(e).b();
            case 2: return prices.get(e);
            case 3: return lines.get(e).colour();
            case 4: return cuts.get(e) ? 1 : 0;
            default: return -1;
        }
    }

    public int count(int what) {
        if (what >= 20 && what < 20 + posts) return degrees[what - 20];
        if (what >= 30 && what < 30 + posts) return demands[what - 30];
        switch (what) {
            case 0: return posts;
            case 1: return lines.size();
            case 2: return (int) cuts.stream().filter(c -> !c).count();
            case 3: return root;
            case 4: return depth;
            case 5: return load;
            case 6: return redsFrom;
            case 7: return redsTo;
            case 8: return way;
            case 9: return allTrees().size();
            default: return -1;
        }
    }

    /** From layer to layer: of each tree of a layer the least of the rows that lead to it from a. */
    private List<Integer> leastRow(int a, int b) {
        List<Integer> goods = goodTrees();
        if (!goods.contains(a) || !goods.contains(b)) return null;
        List<Integer> unseen = new ArrayList<>(goods);
        unseen.remove((Integer) a);
        Map<Integer, List<Integer>> layer = new TreeMap<>();
        layer.put(a, List.of(a));
        while (!layer.isEmpty()) {
            if (layer.containsKey(b)) return layer.get(b);
            Map<Integer, List<Integer>> next = new TreeMap<>();
            for (int to : unseen) {
                for (Map.Entry<Integer, List<Integer>> from : layer.entrySet()) {
                    if (Integer.bitCount(from.getKey() ^ to) != 2) continue;
                    List<Integer> row = new ArrayList<>(from.getValue());
                    row.add(to);
                    if (!next.containsKey(to) || Arrays.compare(ints(row), ints(next.get(to))) < 0) next.put(to, row);
                }
            }
            unseen.removeAll(next.keySet());
            layer = next;
        }
        return null;
    }

    private static int[] ints(List<Integer> row) {
        return row.stream().mapToInt(Integer::intValue).toArray();
    }

    private List<Integer> allTrees() {
        List<Integer> row = new ArrayList<>();
        for (int set = 0; set < 1 << lines.size(); set++) {
            if (isTree(set)) row.add(set);
        }
        return row;
    }

    private List<Integer> goodTrees() {
        List<Integer> row = allTrees();
        row.removeIf(set -> breaks(set) != 0);
        return row;
    }

    private List<Integer> rankedTrees() {
        List<Integer> row = goodTrees();
        row.sort(Comparator.<Integer>comparingInt(t -> measure(t, 0)).thenComparingInt(t -> t));
        return row;
    }

    private static int at(List<Integer> row, int i) {
        return i < 0 || i >= row.size() ? -1 : row.get(i);
    }

    private boolean isPost(int v) {
        return v >= 0 && v < posts;
    }

    private boolean isLine(int e) {
        return e >= 0 && e < lines.size();
    }

    private static boolean has(int set, int e) {
        return (set >> e) % 2 == 1;
    }

    private boolean isTree(int set) {
        if (Integer.bitCount(set) != posts - 1) return false;
        int[] group = {0, 1, 2, 3, 4, 5, 6, 7};
        for (int e = 0; e < lines.size(); e++) {
            if (!has(set, e)) continue;
            int from = group[lines.get(e).a()];
            int to = group[lines.get(e).b()];
            if (cuts.get(e) || from == to) return false;
            for (int v = 0; v < posts; v++) if (group[v] == from) group[v] = to;
        }
        return true;
    }

    private boolean holds(int tree, int limit) {
        switch (limit) {
            case 0:
                for (int v = 0; v < posts; v++) if (degreeIn(tree, v) > degrees[v]) return false;
                return true;
            case 1: return measure(tree, 2) <= depth;
            case 2: return measure(tree, 3) <= load;
            case 3: return measure(tree, 4) >= redsFrom && measure(tree, 4) <= redsTo;
            default: return measure(tree, 5) <= way;
        }
    }

    private int degreeIn(int tree, int v) {
        int sum = 0;
        for (int e = 0; e < lines.size(); e++) {
            if (has(tree, e) && (lines.get(e).a() == v || lines.get(e).b() == v)) sum++;
        }
        return sum;
    }

    /** The lines from a post to the root, the one at the root last. */
    private List<Integer> pathToRoot(int tree, int v) {
        List<Integer> path = new ArrayList<>();
        findRoot(tree, v, path);
        return path;
    }

    private boolean findRoot(int tree, int v, List<Integer> path) {
        if (v == root) return true;
        for (int e = 0; e < lines.size(); e++) {
            if (!has(tree, e) || path.contains(e)) continue;
            Line line = lines.get(e);
            if (line.a() != v && line.b() != v) continue;
            path.add(e);
            if (findRoot(tree, line.a() == v ? line.b() : line.a(), path)) return true;
            path.remove((Integer) e);
        }
        return false;
    }

    private int hangingOn(int tree, int rootLine) {
        int sum = 0;
        for (int v = 0; v < posts; v++) {
            List<Integer> path = pathToRoot(tree, v);
            if (!path.isEmpty() && path.get(path.size() - 1) == rootLine) sum += demands[v];
        }
        return sum;
    }

    private int priceOf(List<Integer> path) {
        int sum = 0;
        for (int e : path) sum += prices.get(e);
        return sum;
    }
}
