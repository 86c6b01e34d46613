import java.util.Arrays;

/**
 * A keeper of nets that are trees under limits: posts joined by lines with prices and two colours.
 *
 * Sets of lines and sets of limits are ints, a bit for each. Every row is made once, in a
 * constructor, and used again by all calls; no call makes an object.
 */
public final class LimitTrees {
    public static final int NONE = -1;

    private static final int FEWEST_POSTS = 2;
    private static final int MOST_POSTS = 8;
    private static final int MOST_LINES = 14;
    private static final int MOST_PRICE = 999;
    private static final int MOST_DEGREE = 14;
    private static final int MOST_DEPTH = 7;
    private static final int MOST_DEMAND = 99;
    private static final int MOST_REDS = 14;
    private static final int MOST_LOAD = 9999;
    private static final int MOST_WAY = 9999;

    // No net of p posts and 14 lines has more trees than (28 / (p - 1)) ^ (p - 1) / p (the product
    // of the roots of its Laplacian is greatest if they are alike): 2048 for 8 posts, less for fewer.
    private static final int PLACE_BITS = 11;
    private static final int MOST_TREES = 1 << PLACE_BITS;

    private static final int DEGREES_BIT = 1;
    private static final int DEPTH_BIT = 2;
    private static final int LOAD_BIT = 4;
    private static final int REDS_BIT = 8;
    private static final int WAY_BIT = 16;
    private static final int ALL_LIMITS = 31;

    private static final int COUNT_DEGREE = 20;
    private static final int COUNT_DEMAND = 30;

    private final Net net;
    private final Limits limits;
    private final Shape shape;
    private final TreeList list;
    private final GoodTrees goods;
    private final Route route;

    public LimitTrees() {
        net = new Net();
        limits = new Limits();
        shape = new Shape(net);
        list = new TreeList(net);
        int[] spare = new int[MOST_TREES];
        goods = new GoodTrees(spare);
        route = new Route(goods, spare);
        startAnew(FEWEST_POSTS);
    }

    public boolean posts(int n) {
        if (!within(n, FEWEST_POSTS, MOST_POSTS)) {
            return false;
        }
        startAnew(n);
        return true;
    }

    public int line(int a, int b, int price, int colour) {
        boolean ends = net.hasPost(a) && net.hasPost(b) && a != b;
        boolean kind = within(price, 0, MOST_PRICE) && within(colour, 0, 1);
        if (!ends || !kind || net.lines >= MOST_LINES) {
            return NONE;
        }
        goods.forget();
        return net.addLine(a, b, price, colour);
    }

    public boolean cut(int e, boolean is) {
        if (!net.hasLine(e) || net.isCut(e) == is) {
            return false;
        }
        net.cut ^= 1 << e;
        goods.forget();
        return true;
    }

    public boolean price(int e, int n) {
        if (!net.hasLine(e) || !within(n, 0, MOST_PRICE)) {
            return false;
        }
        net.price[e] = n;
        goods.forget();
        return true;
    }

    public boolean degree(int v, int n) {
        if (!net.hasPost(v) || !within(n, 0, MOST_DEGREE)) {
            return false;
        }
        limits.degree[v] = n;
        goods.forget();
        return true;
    }

    public boolean depth(int n) {
        if (!within(n, 0, MOST_DEPTH)) {
            return false;
        }
        limits.depth = n;
        goods.forget();
        return true;
    }

    public boolean root(int v) {
        if (!net.hasPost(v)) {
            return false;
        }
        net.root = v;
        goods.forget();
        return true;
    }

    public boolean load(int n) {
        if (!within(n, 0, MOST_LOAD)) {
            return false;
        }
        limits.load = n;
        goods.forget();
        return true;
    }

    public boolean demand(int v, int n) {
        if (!net.hasPost(v) || !within(n, 0, MOST_DEMAND)) {
            return false;
        }
        net.demand[v] = n;
        goods.forget();
        return true;
    }

    public boolean reds(int from, int to) {
        if (!within(from, 0, MOST_REDS) || !within(to, from, MOST_REDS)) {
            return false;
        }
        limits.fewestReds = from;
        limits.mostReds = to;
        goods.forget();
        return true;
    }

    public boolean way(int n) {
        if (!within(n, 0, MOST_WAY)) {
            return false;
        }
        limits.way = n;
        goods.forget();
        return true;
    }

    public int tree(int set) {
        if (!net.hasLines(set)) {
            return NONE;
        }
        return shape.takes(set) ? 1 : 0;
    }

    public int breaks(int set) {
        return shape.takes(set) ? limits.brokenBy(set, net, shape) : NONE;
    }

    public int measure(int set, int what) {
        if (!shape.takes(set)) {
            return NONE;
        }
        switch (what) {
            case 0: return shape.price;
            case 1: return net.mostLinesAtAPost(set);
            case 2: return shape.depth;
            case 3: return shape.load;
            case 4: return net.redsIn(set);
            case 5: return shape.way;
            default: return NONE;
        }
    }

    public int many() {
        judge();
        return goods.many;
    }

    public int good(int i) {
        judge();
        return i >= 0 && i < goods.many ? goods.sets[i] : NONE;
    }

    public int ranked(int i) {
        judge();
        return i >= 0 && i < goods.many ? goods.sets[goods.placeRanked(i)] : NONE;
    }

    public int slack(int e) {
        if (!net.hasLine(e) || net.isCut(e)) {
            return NONE;
        }
        judge();
        return goods.slackOf(e);
    }

    public int bar() {
        judge();
        return goods.many > 0 ? NONE : goods.fewestBarring();
    }

    public int front(int i, int what) {
        if (i < 0 || !within(what, 0, 2)) {
            return NONE;
        }
        judge();
        int place = goods.placeOnFront(i);
        if (place == NONE) {
            return NONE;
        }
        switch (what) {
            case 0: return goods.sets[place];
            case 1: return net.priceOf(goods.sets[place]);
            default: return goods.ways[place];
        }
    }

    public int swaps(int a, int b) {
        judge();
        int start = goods.placeOf(a);
        int end = goods.placeOf(b);
        return start == NONE || end == NONE ? NONE : route.length(start, end);
    }

    public int step(int a, int b, int i) {
        judge();
        int start = goods.placeOf(a);
        int end = goods.placeOf(b);
        return start == NONE || end == NONE ? NONE : route.treeAt(start, end, i);
    }

    public int look(int e, int what) {
        if (!net.hasLine(e)) {
            return NONE;
        }
        switch (what) {
            case 0: return net.from[e];
            case 1: return net.to[e];
            case 2: return net.price[e];
            case 3: return net.red >> e & 1;
            case 4: return net.cut >> e & 1;
            default: return NONE;
        }
    }

    public int count(int what) {
        switch (what) {
            case 0: return net.posts;
            case 1: return net.lines;
            case 2: return Integer.bitCount(net.whole());
            case 3: return net.root;
            case 4: return limits.depth;
            case 5: return limits.load;
            case 6: return limits.fewestReds;
            case 7: return limits.mostReds;
            case 8: return limits.way;
            case 9: return wholeTrees();
            default: return countAtPost(what);
        }
    }

    private int countAtPost(int what) {
        if (what >= COUNT_DEMAND) {
            int v = what - COUNT_DEMAND;
            return net.hasPost(v) ? net.demand[v] : NONE;
        }
        if (what >= COUNT_DEGREE) {
            int v = what - COUNT_DEGREE;
            return net.hasPost(v) ? limits.degree[v] : NONE;
        }
        return NONE;
    }

    private int wholeTrees() {
        judge();
        return goods.trees;
    }

    private void startAnew(int n) {
        net.clear(n);
        limits.clear();
        list.clear();
        goods.forget();
    }

    private static boolean within(int n, int least, int most) {
        return n >= least && n <= most;
    }

    /** Finds the good trees anew if something has changed since they were found. */
    private void judge() {
        if (goods.known) {
            return;
        }
        list.catchUp();
        goods.clear();
        route.forget();
        for (int i = 0; i < list.many; i++) {
            int set = list.sets[i];
            if (shape.takes(set)) {
                goods.take(set, limits.brokenBy(set, net, shape), shape);
            }
        }
        goods.rank();
    }

    /** The posts with their demands, the root, and the lines. */
    private static final class Net {
        int posts;
        int root;
        int lines;
        int red;
        int cut;
        final int[] demand = new int[MOST_POSTS];
        final int[] linesAt = new int[MOST_POSTS];
        final int[] from = new int[MOST_LINES];
        final int[] to = new int[MOST_LINES];
        final int[] price = new int[MOST_LINES];

        void clear(int n) {
            posts = n;
            root = 0;
            lines = 0;
            red = 0;
            cut = 0;
            Arrays.fill(demand, 1);
            Arrays.fill(linesAt, 0);
        }

        /** Its callers have looked at all four, and at the room for one more. */
        int addLine(int a, int b, int itsPrice, int colour) {
            int e = lines;
            from[e] = a;
            to[e] = b;
            price[e] = itsPrice;
            red |= colour << e;
            linesAt[a] |= 1 << e;
            linesAt[b] |= 1 << e;
            lines++;
            return e;
        }

        boolean hasPost(int v) {
            return v >= 0 && v < posts;
        }

        boolean hasLine(int e) {
            return e >= 0 && e < lines;
        }

        boolean hasLines(int set) {
            return set >= 0 && set < 1 << lines;
        }

        boolean isCut(int e) {
            return (cut >> e & 1) != 0;
        }

        int whole() {
            return (1 << lines) - 1 & ~cut;
        }

        int redsIn(int set) {
            return Integer.bitCount(set & red);
        }

        int mostLinesAtAPost(int set) {
            int most = 0;
            for (int v = 0; v < posts; v++) {
                most = Math.max(most, Integer.bitCount(set & linesAt[v]));
            }
            return most;
        }

        int priceOf(int set) {
            int sum = 0;
            for (int e = 0; e < lines; e++) {
                if ((set >> e & 1) != 0) {
                    sum += price[e];
                }
            }
            return sum;
        }
    }

    /** The numbers told for the five limits. */
    private static final class Limits {
        final int[] degree = new int[MOST_POSTS];
        int depth;
        int load;
        int fewestReds;
        int mostReds;
        int way;

        void clear() {
            Arrays.fill(degree, MOST_DEGREE);
            depth = MOST_DEPTH;
            load = MOST_LOAD;
            fewestReds = 0;
            mostReds = MOST_REDS;
            way = MOST_WAY;
        }

        /** The limits that a tree breaks; the shape is that of this tree. */
        int brokenBy(int set, Net net, Shape shape) {
            int broken = 0;
            if (hasCrowdedPost(set, net)) {
                broken |= DEGREES_BIT;
            }
            if (shape.depth > depth) {
                broken |= DEPTH_BIT;
            }
            if (shape.load > load) {
                broken |= LOAD_BIT;
            }
            int redLines = net.redsIn(set);
            if (redLines < fewestReds || redLines > mostReds) {
                broken |= REDS_BIT;
            }
            if (shape.way > way) {
                broken |= WAY_BIT;
            }
            return broken;
        }

        private boolean hasCrowdedPost(int set, Net net) {
            for (int v = 0; v < net.posts; v++) {
                if (Integer.bitCount(set & net.linesAt[v]) > degree[v]) {
                    return true;
                }
            }
            return false;
        }
    }

    /** What is measured of one tree by walking it from the root. */
    private static final class Shape {
        int price;
        int depth;
        int load;
        int way;
        private final Net net;
        private final int[] row = new int[MOST_POSTS];
        private final int[] depthOf = new int[MOST_POSTS];
        private final int[] wayOf = new int[MOST_POSTS];
        private final int[] branchOf = new int[MOST_POSTS];
        private final int[] loadOf = new int[MOST_POSTS];
        private int reached;

        Shape(Net net) {
            this.net = net;
        }

        /** Whether a set of lines is a tree; if it is, the shape is that of this tree from now on. */
        boolean takes(int set) {
            return net.hasLines(set)
                && (set & net.cut) == 0
                && Integer.bitCount(set) == net.posts - 1
                && walk(set);
        }

        private boolean walk(int set) {
            standAtRoot();
            int seen = 1 << net.root;
            int left = set;
            for (int i = 0; i < reached && i < MOST_POSTS; i++) {
                int v = row[i];
                int here = left & net.linesAt[v];
                left ^= here;
                for (; here != 0; here &= here - 1) {
                    int e = Integer.bitCount((here & -here) - 1);
                    int w = net.from[e] + net.to[e] - v;
                    if ((seen >> w & 1) != 0) {
                        return false;
                    }
                    seen |= 1 << w;
                    reach(w, v, net.price[e]);
                }
            }
            return reached == net.posts;
        }

        private void standAtRoot() {
            price = 0;
            depth = 0;
            load = 0;
            way = 0;
            row[0] = net.root;
            depthOf[net.root] = 0;
            wayOf[net.root] = 0;
            reached = 1;
        }

        /** Each post is reached once, so the row has room for all. */
        private void reach(int w, int v, int linePrice) {
            row[reached] = w;
            reached++;
            price += linePrice;
            depthOf[w] = depthOf[v] + 1;
            depth = Math.max(depth, depthOf[w]);
            wayOf[w] = wayOf[v] + linePrice;
            way = Math.max(way, wayOf[w]);
            if (v == net.root) {
                branchOf[w] = w;
                loadOf[w] = 0;
            } else {
                branchOf[w] = branchOf[v];
            }
            int branch = branchOf[w];
            loadOf[branch] += net.demand[w];
            load = Math.max(load, loadOf[branch]);
        }
    }

    /**
     * All trees of the net by their bits, those with cut lines too: so a cut needs no new search,
     * and a new line, whose bit is the highest, only adds trees behind the others.
     */
    private static final class TreeList {
        final int[] sets = new int[MOST_TREES];
        int many;
        private final Net net;
        private final int[] joined = new int[MOST_POSTS * MOST_POSTS];
        private int listedLines;

        TreeList(Net net) {
            this.net = net;
        }

        void clear() {
            many = 0;
            listedLines = 0;
        }

        void catchUp() {
            for (int e = listedLines; e < net.lines; e++) {
                for (int v = 0; v < net.posts; v++) {
                    joined[v] = 1 << v;
                }
                if (joins(e, 0)) {
                    grow(1, e, 1 << e);
                }
            }
            listedLines = net.lines;
        }

        /** Adds all trees that hold a forest of so many lines and, beside it, lines below one only. */
        private void grow(int held, int below, int set) {
            int missing = net.posts - 1 - held;
            if (missing <= 0) {
                add(set);
                return;
            }
            for (int e = missing - 1; e < below; e++) {
                if (joins(e, held)) {
                    grow(held + 1, e, set | 1 << e);
                }
            }
        }

        /**
         * Whether a line joins what was not joined by so many lines; if so, the next row tells which
         * posts are joined with it. A tree has at most 7 lines, so the last row is the eighth.
         */
        private boolean joins(int e, int held) {
            int row = held * MOST_POSTS;
            int a = net.from[e];
            int b = net.to[e];
            if (held + 1 >= MOST_POSTS || (joined[row + a] >> b & 1) != 0) {
                return false;
            }
            int both = joined[row + a] | joined[row + b];
            for (int v = 0; v < net.posts; v++) {
                joined[row + MOST_POSTS + v] = (both >> v & 1) != 0 ? both : joined[row + v];
            }
            return true;
        }

        private void add(int set) {
            if (many < MOST_TREES) {
                sets[many] = set;
                many++;
            }
        }
    }

    /** The good trees by their bits (a tree's place is its number there), and ranked. */
    private static final class GoodTrees {
        private static final int WORD_BITS = 6;
        private static final int WORDS = 1 << MOST_LINES - WORD_BITS;
        private static final int IN_WORD = (1 << WORD_BITS) - 1;
        private static final int DIGIT_BITS = 7;
        private static final int DIGITS = 1 << DIGIT_BITS;

        final int[] sets = new int[MOST_TREES];
        final int[] ways = new int[MOST_TREES];
        int many;
        int trees;
        boolean known;
        private final int[] ranks = new int[MOST_TREES];
        private final int[] spare;
        private final int[] starts = new int[DIGITS];
        private final long[] words = new long[WORDS];
        private final int[] firstOfWord = new int[WORDS];
        private int kindsOfBreaks;

        GoodTrees(int[] spare) {
            this.spare = spare;
        }

        void forget() {
            known = false;
        }

        void clear() {
            many = 0;
            trees = 0;
            kindsOfBreaks = 0;
            Arrays.fill(words, 0L);
        }

        /** Takes the next tree by bits, with the limits that it breaks. */
        void take(int set, int broken, Shape shape) {
            trees++;
            kindsOfBreaks |= 1 << broken;
            if (broken != 0 || many >= MOST_TREES) {
                return;
            }
            int word = set >> WORD_BITS;
            if (words[word] == 0) {
                firstOfWord[word] = many;
            }
            words[word] |= 1L << (set & IN_WORD);
            sets[many] = set;
            ways[many] = shape.way;
            ranks[many] = shape.price << PLACE_BITS | many;
            many++;
        }

        /** By price alone: the trees come by their bits, and each round keeps the order of like ones. */
        void rank() {
            sortByDigit(ranks, spare, PLACE_BITS);
            sortByDigit(spare, ranks, PLACE_BITS + DIGIT_BITS);
            known = true;
        }

        private void sortByDigit(int[] source, int[] target, int shift) {
            Arrays.fill(starts, 0);
            for (int i = 0; i < many; i++) {
                starts[source[i] >> shift & DIGITS - 1]++;
            }
            int start = 0;
            for (int d = 0; d < DIGITS; d++) {
                int size = starts[d];
                starts[d] = start;
                start += size;
            }
            for (int i = 0; i < many; i++) {
                int d = source[i] >> shift & DIGITS - 1;
                target[starts[d]] = source[i];
                starts[d]++;
            }
        }

        int placeOf(int set) {
            if (set < 0 || set >= 1 << MOST_LINES) {
                return NONE;
            }
            long word = words[set >> WORD_BITS];
            long bit = 1L << (set & IN_WORD);
            if ((word & bit) == 0) {
                return NONE;
            }
            return firstOfWord[set >> WORD_BITS] + Long.bitCount(word & bit - 1);
        }

        int placeRanked(int i) {
            return ranks[i] & MOST_TREES - 1;
        }

        private int priceRanked(int i) {
            return ranks[i] >> PLACE_BITS;
        }

        private int lineOfRanked(int i, int e) {
            return sets[placeRanked(i)] >> e & 1;
        }

        /** The first ranked tree that has the line if the best has it not, or has it not if the best has. */
        int slackOf(int e) {
            for (int i = 1; i < many; i++) {
                if (lineOfRanked(i, e) != lineOfRanked(0, e)) {
                    return priceRanked(i) - priceRanked(0);
                }
            }
            return NONE;
        }

        /** Asked only if no tree is good, so that all limits together do bar. */
        int fewestBarring() {
            int best = ALL_LIMITS;
            for (int asked = 0; asked < ALL_LIMITS; asked++) {
                if (Integer.bitCount(asked) < Integer.bitCount(best) && barsAll(asked)) {
                    best = asked;
                }
            }
            return best;
        }

        private boolean barsAll(int asked) {
            for (int broken = 0; broken <= ALL_LIMITS; broken++) {
                if ((kindsOfBreaks >> broken & 1) != 0 && (broken & asked) == 0) {
                    return false;
                }
            }
            return true;
        }

        /**
         * The place of the i-th tree of the front. By price, a tree is on it if its way is less than all
         * before; a later one of the same price with a still lesser way stands in its stead.
         */
        int placeOnFront(int i) {
            int found = NONE;
            int last = NONE;
            for (int k = 0; k < many; k++) {
                if (last != NONE && ways[placeRanked(k)] >= ways[placeRanked(last)]) {
                    continue;
                }
                if (last == NONE || priceRanked(k) != priceRanked(last)) {
                    if (found == i) {
                        break;
                    }
                    found++;
                }
                last = k;
            }
            return found == i && last != NONE ? placeRanked(last) : NONE;
        }
    }

    /** Ways by swaps from good trees to one of them, the goal: searched from there, as far as asked. */
    private static final class Route {
        private final GoodTrees goods;
        private final int[] far = new int[MOST_TREES];
        private final int[] queue;
        private int goal = NONE;
        private int head;
        private int tail;
        private int linesUsed;

        Route(GoodTrees goods, int[] spare) {
            this.goods = goods;
            queue = spare;
        }

        void forget() {
            goal = NONE;
        }

        int length(int start, int end) {
            if (goal != end) {
                standAt(end);
            }
            for (; far[start] == NONE && head < tail && head < MOST_TREES; head++) {
                spread(queue[head]);
            }
            return far[start];
        }

        int treeAt(int start, int end, int i) {
            if (i < 0 || i > length(start, end)) {
                return NONE;
            }
            int place = start;
            for (int k = 0; k < i; k++) {
                place = nextOf(place);
            }
            return goods.sets[place];
        }

        private void standAt(int end) {
            goal = end;
            linesUsed = 0;
            for (int i = 0; i < goods.many; i++) {
                far[i] = NONE;
                linesUsed |= goods.sets[i];
            }
            far[end] = 0;
            queue[0] = end;
            head = 0;
            tail = 1;
        }

        private void spread(int place) {
            int set = goods.sets[place];
            for (int outs = set; outs != 0; outs &= outs - 1) {
                int rest = set ^ outs & -outs;
                for (int ins = linesUsed & ~set; ins != 0; ins &= ins - 1) {
                    reach(goods.placeOf(rest | ins & -ins), far[place] + 1);
                }
            }
        }

        private void reach(int place, int swapsToGoal) {
            if (place != NONE && far[place] == NONE && tail < MOST_TREES) {
                far[place] = swapsToGoal;
                queue[tail] = place;
                tail++;
            }
        }

        /** The least tree one swap on that is nearer to the goal: the search has reached all of these. */
        private int nextOf(int place) {
            for (int i = 0; i < goods.many; i++) {
                if (far[i] == far[place] - 1 && Integer.bitCount(goods.sets[i] ^ goods.sets[place]) == 2) {
                    return i;
                }
            }
            return place;
        }
    }
}
