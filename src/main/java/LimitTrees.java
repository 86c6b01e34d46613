import java.util.Arrays;

/**
 * A keeper of nets that are trees under limits: posts joined by lines with prices and two colours.
 *
 * Sets of lines and sets of limits are ints, a bit for each. Every row is made once, in a
 * constructor, and used again by all calls; no call makes an object.
 */
public final class LimitTrees {
    public static final int NONE = -1;

    private static final int FEWEST_POSTS = 2;
    private static final int MOST_POSTS = 8;
    private static final int MOST_LINES = 14;
    private static final int MOST_PRICE = 999;
    private static final int MOST_DEGREE = 14;
    private static final int MOST_DEPTH = 7;
    private static final int MOST_DEMAND = 99;
    private static final int MOST_REDS = 14;
    private static final int MOST_LOAD = 9999;
    private static final int MOST_WAY = 9999;

    // Rows of bits, one for each set of lines, are kept in longs.
    private static final int WORD_BITS = 6;
    private static final int WORDS = 1 << MOST_LINES - WORD_BITS;

    // No net of 14 lines and at most 8 posts has more trees: MostTreesTest goes through them all.
    private static final int MOST_TREES = 1280;

    private static final int DEGREES_BIT = 1;
    private static final int DEPTH_BIT = 2;
    private static final int LOAD_BIT = 4;
    private static final int REDS_BIT = 8;
    private static final int WAY_BIT = 16;
    private static final int ALL_LIMITS = 31;

    private static final int COUNT_DEGREE = 20;
    private static final int COUNT_DEMAND = 30;

    private final Net net;
    private final Limits limits;
    private final Shape shape;
    private final TreeList list;
    private final GoodTrees goods;
    private final Route route;

    public LimitTrees() {
        net = new Net();
        limits = new Limits();
        shape = new Shape(net);
        list = new TreeList(net);
        goods = new GoodTrees(net, limits, list);
        route = new Route(list, goods);
        startAnew(FEWEST_POSTS);
    }

    public boolean posts(int n) {
        if (!within(n, FEWEST_POSTS, MOST_POSTS)) {
            return false;
        }
        startAnew(n);
        return true;
    }

    public int line(int a, int b, int price, int colour) {
        boolean ends = net.hasPost(a) && net.hasPost(b) && a != b;
        boolean kind = within(price, 0, MOST_PRICE) && within(colour, 0, 1);
        if (!ends || !kind || net.lines >= MOST_LINES) {
            return NONE;
        }
        goods.forget();
        return net.addLine(a, b, price, colour);
    }

    public boolean cut(int e, boolean is) {
        if (!net.hasLine(e) || net.isCut(e) == is) {
            return false;
        }
        net.cut ^= 1 << e;
        goods.forget();
        return true;
    }

    public boolean price(int e, int n) {
        if (!net.hasLine(e) || !within(n, 0, MOST_PRICE)) {
            return false;
        }
        net.price[e] = n;
        forgetMeasures();
        return true;
    }

    public boolean degree(int v, int n) {
        if (!net.hasPost(v) || !within(n, 0, MOST_DEGREE)) {
            return false;
        }
        limits.setDegree(v, n);
        goods.forget();
        return true;
    }

    public boolean depth(int n) {
        if (!within(n, 0, MOST_DEPTH)) {
            return false;
        }
        limits.depth = n;
        goods.forget();
        return true;
    }

    public boolean root(int v) {
        if (!net.hasPost(v)) {
            return false;
        }
        net.root = v;
        forgetMeasures();
        return true;
    }

    public boolean load(int n) {
        if (!within(n, 0, MOST_LOAD)) {
            return false;
        }
        limits.load = n;
        goods.forget();
        return true;
    }

    public boolean demand(int v, int n) {
        if (!net.hasPost(v) || !within(n, 0, MOST_DEMAND)) {
            return false;
        }
        net.demand[v] = n;
        forgetMeasures();
        return true;
    }

    public boolean reds(int from, int to) {
        if (!within(from, 0, MOST_REDS) || !within(to, from, MOST_REDS)) {
            return false;
        }
        limits.fewestReds = from;
        limits.mostReds = to;
        goods.forget();
        return true;
    }

    public boolean way(int n) {
        if (!within(n, 0, MOST_WAY)) {
            return false;
        }
        limits.way = n;
        goods.forget();
        return true;
    }

    public int tree(int set) {
        if (!net.hasLines(set)) {
            return NONE;
        }
        return isTree(set) ? 1 : 0;
    }

    public int breaks(int set) {
        if (!isTree(set)) {
            return NONE;
        }
        shape.walk(set);
        return limits.brokenBy(net, set, shape.depth, shape.load, shape.way);
    }

    public int measure(int set, int what) {
        if (!isTree(set)) {
            return NONE;
        }
        shape.walk(set);
        switch (what) {
            case 0: return shape.price;
            case 1: return net.mostLinesAtAPost(set);
            case 2: return shape.depth;
            case 3: return shape.load;
            case 4: return net.redsIn(set);
            case 5: return shape.way;
            default: return NONE;
        }
    }

    public int many() {
        judge();
        return goods.many;
    }

    public int good(int i) {
        judge();
        return within(i, 0, goods.many - 1) ? list.sets[goods.places[i]] : NONE;
    }

    public int ranked(int i) {
        judge();
        return within(i, 0, goods.many - 1) ? list.sets[goods.placeRanked(i)] : NONE;
    }

    public int slack(int e) {
        if (!net.hasLine(e) || net.isCut(e)) {
            return NONE;
        }
        judge();
        return goods.slackOf(e);
    }

    public int bar() {
        judge();
        return goods.many > 0 ? NONE : goods.fewestBarring();
    }

    public int front(int i, int what) {
        judge();
        int place = i < 0 ? NONE : goods.placeOnFront(i);
        if (place == NONE) {
            return NONE;
        }
        switch (what) {
            case 0: return list.sets[place];
            case 1: return list.prices[place];
            case 2: return list.ways[place];
            default: return NONE;
        }
    }

    public int swaps(int a, int b) {
        judge();
        int start = goods.placeOfGood(a);
        int end = goods.placeOfGood(b);
        return start == NONE || end == NONE ? NONE : route.length(start, end);
    }

    public int step(int a, int b, int i) {
        judge();
        int start = goods.placeOfGood(a);
        int end = goods.placeOfGood(b);
        return start == NONE || end == NONE ? NONE : route.treeAt(start, end, i);
    }

    public int look(int e, int what) {
        if (!net.hasLine(e)) {
            return NONE;
        }
        switch (what) {
            case 0: return net.from[e];
            case 1: return net.to[e];
            case 2: return net.price[e];
            case 3: return net.red >> e & 1;
            case 4: return net.cut >> e & 1;
            default: return NONE;
        }
    }

    public int count(int what) {
        switch (what) {
            case 0: return net.posts;
            case 1: return net.lines;
            case 2: return net.lines - Integer.bitCount(net.cut);
            case 3: return net.root;
            case 4: return limits.depth;
            case 5: return limits.load;
            case 6: return limits.fewestReds;
            case 7: return limits.mostReds;
            case 8: return limits.way;
            case 9: return wholeTrees();
            default: return countAtPost(what);
        }
    }

    private int wholeTrees() {
        judge();
        return goods.ofTrees;
    }

    private int countAtPost(int what) {
        if (within(what, COUNT_DEGREE, COUNT_DEGREE + net.posts - 1)) {
            return limits.degree[what - COUNT_DEGREE];
        }
        if (within(what, COUNT_DEMAND, COUNT_DEMAND + net.posts - 1)) {
            return net.demand[what - COUNT_DEMAND];
        }
        return NONE;
    }

    private static boolean within(int n, int least, int most) {
        return n >= least && n <= most;
    }

    private static int lowest(int bits) {
        return Integer.bitCount((bits & -bits) - 1);
    }

    private void startAnew(int n) {
        net.clear(n);
        limits.clear();
        list.clear();
        goods.forget();
    }

    private void forgetMeasures() {
        list.forgetMeasures();
        goods.forget();
    }

    private boolean isTree(int set) {
        if (!net.hasLines(set) || (set & net.cut) != 0) {
            return false;
        }
        list.catchUp();
        return list.placeOf(set) != NONE;
    }

    /** Finds the good trees anew if something has changed since they were found. */
    private void judge() {
        if (goods.known) {
            return;
        }
        list.catchUp();
        list.measureAll(shape);
        goods.find();
        route.forget();
    }

    /** The posts with their demands, the root, and the lines. */
    private static final class Net {
        int posts;
        int root;
        int lines;
        int red;
        int cut;
        final int[] demand = new int[MOST_POSTS];
        final int[] linesAt = new int[MOST_POSTS];
        final int[] from = new int[MOST_LINES];
        final int[] to = new int[MOST_LINES];
        final int[] price = new int[MOST_LINES];

        void clear(int n) {
            posts = n;
            root = 0;
            lines = 0;
            red = 0;
            cut = 0;
            Arrays.fill(demand, 1);
            Arrays.fill(linesAt, 0);
        }

        /** The caller has looked at all four, and that there is room for one more. */
        int addLine(int a, int b, int itsPrice, int colour) {
            int e = lines;
            from[e] = a;
            to[e] = b;
            price[e] = itsPrice;
            red |= colour << e;
            linesAt[a] |= 1 << e;
            linesAt[b] |= 1 << e;
            lines++;
            return e;
        }

        boolean hasPost(int v) {
            return v >= 0 && v < posts;
        }

        boolean hasLine(int e) {
            return e >= 0 && e < lines;
        }

        boolean hasLines(int set) {
            return set >= 0 && set < 1 << lines;
        }

        boolean isCut(int e) {
            return (cut >> e & 1) != 0;
        }

        int redsIn(int set) {
            return Integer.bitCount(set & red);
        }

        int mostLinesAtAPost(int set) {
            int most = 0;
            for (int v = 0; v < posts; v++) {
                most = Math.max(most, Integer.bitCount(set & linesAt[v]));
            }
            return most;
        }
    }

    /** The numbers told for the five limits. */
    private static final class Limits {
        final int[] degree = new int[MOST_POSTS];
        int depth;
        int load;
        int fewestReds;
        int mostReds;
        int way;
        // As bits, the posts whose number a tree can exceed at all: most often there are few of them.
        private int tightPosts;

        void clear() {
            Arrays.fill(degree, MOST_DEGREE);
            tightPosts = 0;
            depth = MOST_DEPTH;
            load = MOST_LOAD;
            fewestReds = 0;
            mostReds = MOST_REDS;
            way = MOST_WAY;
        }

        void setDegree(int v, int n) {
            degree[v] = n;
            if (n < MOST_POSTS - 1) {
                tightPosts |= 1 << v;
            } else {
                tightPosts &= ~(1 << v);
            }
        }

        int brokenBy(Net net, int tree, int itsDepth, int itsLoad, int itsWay) {
            int broken = 0;
            if (hasCrowdedPost(net, tree)) {
                broken |= DEGREES_BIT;
            }
            if (itsDepth > depth) {
                broken |= DEPTH_BIT;
            }
            if (itsLoad > load) {
                broken |= LOAD_BIT;
            }
            int itsReds = net.redsIn(tree);
            if (itsReds < fewestReds || itsReds > mostReds) {
                broken |= REDS_BIT;
            }
            if (itsWay > way) {
                broken |= WAY_BIT;
            }
            return broken;
        }

        private boolean hasCrowdedPost(Net net, int tree) {
            for (int left = tightPosts; left != 0; left &= left - 1) {
                int v = lowest(left);
                if (Integer.bitCount(tree & net.linesAt[v]) > degree[v]) {
                    return true;
                }
            }
            return false;
        }
    }

    /** What is measured of one tree by walking it from the root. */
    private static final class Shape {
        int price;
        int depth;
        int load;
        int way;
        private final Net net;

        Shape(Net net) {
            this.net = net;
        }

        void walk(int tree) {
            price = 0;
            depth = 0;
            load = 0;
            way = 0;
            for (int here = tree & net.linesAt[net.root]; here != 0; here &= here - 1) {
                load = Math.max(load, demandsBehind(lowest(here), net.root, tree, 1, 0));
            }
        }

        /** Walks all that hangs on line e, which leads away from post v; no tree is deeper than 7 lines. */
        private int demandsBehind(int e, int v, int lines, int deep, int wayToV) {
            if (deep >= MOST_POSTS) {
                return 0;
            }
            int w = net.from[e] + net.to[e] - v;
            int wayToW = wayToV + net.price[e];
            int rest = lines ^ 1 << e;
            price += net.price[e];
            depth = Math.max(depth, deep);
            way = Math.max(way, wayToW);
            int sum = net.demand[w];
            for (int here = rest & net.linesAt[w]; here != 0; here &= here - 1) {
                sum += demandsBehind(lowest(here), w, rest, deep + 1, wayToW);
            }
            return sum;
        }
    }

    /**
     * All trees by their bits (a tree's place is its number here), with what is measured of them. Those
     * with cut lines are here too: so a cut needs no new search, and a new line, whose bit is the highest,
     * only adds trees behind the others.
     */
    private static final class TreeList {
        final int[] sets = new int[MOST_TREES];
        final int[] prices = new int[MOST_TREES];
        final int[] depths = new int[MOST_TREES];
        final int[] loads = new int[MOST_TREES];
        final int[] ways = new int[MOST_TREES];
        int many;
        private final Net net;
        private final TreeBits bits = new TreeBits();
        private final int[] firstOfWord = new int[WORDS];
        private final int[] joined = new int[MOST_POSTS * MOST_POSTS];
        private int linesListed;
        private int treesMeasured;

        TreeList(Net net) {
            this.net = net;
        }

        void clear() {
            many = 0;
            linesListed = 0;
            treesMeasured = 0;
            bits.clear();
        }

        void forgetMeasures() {
            treesMeasured = 0;
        }

        void measureAll(Shape shape) {
            for (int place = treesMeasured; place < many; place++) {
                shape.walk(sets[place]);
                prices[place] = shape.price;
                depths[place] = shape.depth;
                loads[place] = shape.load;
                ways[place] = shape.way;
            }
            treesMeasured = many;
        }

        int placeOf(int set) {
            if (!bits.has(set)) {
                return NONE;
            }
            return firstOfWord[set >> WORD_BITS] + bits.lesserInWordOf(set);
        }

        void catchUp() {
            for (int e = linesListed; e < net.lines; e++) {
                for (int v = 0; v < net.posts; v++) {
                    joined[v] = 1 << v;
                }
                grow(0, e, e + 1, 0);
            }
            linesListed = net.lines;
        }

        /**
         * Adds the trees that a set of so many lines makes with others, by their bits: the highest of the
         * others is at least first and below one. What is missing after it has that many lines below it.
         */
        private void grow(int held, int first, int below, int set) {
            int missing = net.posts - 1 - held;
            for (int e = first; e < below; e++) {
                if (areJoined(e, held)) {
                    continue;
                }
                if (missing <= 1) {
                    add(set | 1 << e);
                } else {
                    join(e, held);
                    grow(held + 1, missing - 2, e, set | 1 << e);
                }
            }
        }

        /** Row i of what is joined tells, of each post, the posts that i lines join with it, as bits. */
        private boolean areJoined(int e, int held) {
            return (joined[held * MOST_POSTS + net.from[e]] >> net.to[e] & 1) != 0;
        }

        private void join(int e, int held) {
            int row = held * MOST_POSTS;
            int both = joined[row + net.from[e]] | joined[row + net.to[e]];
            for (int v = 0; v < net.posts; v++) {
                joined[row + MOST_POSTS + v] = (both >> v & 1) != 0 ? both : joined[row + v];
            }
        }

        private void add(int set) {
            if (many >= MOST_TREES) {
                return;
            }
            if (!bits.hasInWordOf(set)) {
                firstOfWord[set >> WORD_BITS] = many;
            }
            bits.put(set);
            sets[many] = set;
            many++;
        }
    }

    /** A set of sets of lines, a bit for each; a shift of a long takes the last six bits of a set, its bit. */
    private static final class TreeBits {
        private final long[] words = new long[WORDS];

        void clear() {
            Arrays.fill(words, 0L);
        }

        void put(int set) {
            if (set >>> MOST_LINES == 0) {
                words[set >> WORD_BITS] |= 1L << set;
            }
        }

        void drop(int set) {
            if (set >>> MOST_LINES == 0) {
                words[set >> WORD_BITS] &= ~(1L << set);
            }
        }

        boolean has(int set) {
            return set >>> MOST_LINES == 0 && (words[set >> WORD_BITS] >> set & 1L) != 0;
        }

        boolean hasInWordOf(int set) {
            return set >>> MOST_LINES == 0 && words[set >> WORD_BITS] != 0;
        }

        int lesserInWordOf(int set) {
            return set >>> MOST_LINES == 0 ? Long.bitCount(words[set >> WORD_BITS] & (1L << set) - 1) : 0;
        }
    }

    /** The places of the good trees, by their bits and ranked, and what bars the others. */
    private static final class GoodTrees {
        private static final int PLACE_BITS = 11;
        private static final int DIGIT_BITS = 7;
        private static final int DIGITS = 1 << DIGIT_BITS;

        final int[] places = new int[MOST_TREES];
        int many;
        int ofTrees;
        boolean known;
        private final Net net;
        private final Limits limits;
        private final TreeList list;
        private final int[] ranks = new int[MOST_TREES];
        private final int[] spare = new int[MOST_TREES];
        private final int[] starts = new int[DIGITS];
        private boolean isRanked;
        private int kindsOfBreaks;

        GoodTrees(Net net, Limits limits, TreeList list) {
            this.net = net;
            this.limits = limits;
            this.list = list;
        }

        void forget() {
            known = false;
        }

        /** The list is whole and measured. */
        void find() {
            many = 0;
            ofTrees = 0;
            kindsOfBreaks = 0;
            for (int place = 0; place < list.many; place++) {
                if ((list.sets[place] & net.cut) == 0) {
                    take(place, brokenAt(place));
                }
            }
            isRanked = false;
            known = true;
        }

        private void take(int place, int broken) {
            ofTrees++;
            kindsOfBreaks |= 1 << broken;
            if (broken == 0) {
                places[many] = place;
                many++;
            }
        }

        private int brokenAt(int place) {
            return limits.brokenBy(net, list.sets[place], list.depths[place], list.loads[place], list.ways[place]);
        }

        int placeOfGood(int set) {
            int place = list.placeOf(set);
            boolean isGood = place != NONE && (set & net.cut) == 0 && brokenAt(place) == 0;
            return isGood ? place : NONE;
        }

        int placeRanked(int i) {
            rank();
            return ranks[i] & (1 << PLACE_BITS) - 1;
        }

        /** A rank is a price with a place below it; they come by places, and like digits keep their order. */
        private void rank() {
            if (isRanked) {
                return;
            }
            for (int i = 0; i < many; i++) {
                ranks[i] = list.prices[places[i]] << PLACE_BITS | places[i];
            }
            sortByDigit(ranks, spare, PLACE_BITS);
            sortByDigit(spare, ranks, PLACE_BITS + DIGIT_BITS);
            isRanked = true;
        }

        private void sortByDigit(int[] source, int[] target, int shift) {
            Arrays.fill(starts, 0);
            for (int i = 0; i < many; i++) {
                starts[source[i] >> shift & DIGITS - 1]++;
            }
            int start = 0;
            for (int digit = 0; digit < DIGITS; digit++) {
                int size = starts[digit];
                starts[digit] = start;
                start += size;
            }
            for (int i = 0; i < many; i++) {
                int digit = source[i] >> shift & DIGITS - 1;
                target[starts[digit]] = source[i];
                starts[digit]++;
            }
        }

        /** In their ranks the first tree that is not like the best in having the line, or not. */
        int slackOf(int e) {
            if (many == 0) {
                return NONE;
            }
            int best = placeRanked(0);
            for (int i = 1; i < many; i++) {
                int place = placeRanked(i);
                if (((list.sets[place] ^ list.sets[best]) >> e & 1) != 0) {
                    return list.prices[place] - list.prices[best];
                }
            }
            return NONE;
        }

        /** Asked only if no tree is good, so that all limits together do bar. */
        int fewestBarring() {
            int best = ALL_LIMITS;
            for (int asked = 0; asked < ALL_LIMITS; asked++) {
                if (Integer.bitCount(asked) < Integer.bitCount(best) && barsAll(asked)) {
                    best = asked;
                }
            }
            return best;
        }

        private boolean barsAll(int asked) {
            for (int broken = 0; broken <= ALL_LIMITS; broken++) {
                if ((kindsOfBreaks >> broken & 1) != 0 && (broken & asked) == 0) {
                    return false;
                }
            }
            return true;
        }

        /**
         * The place of the i-th tree of the front. In their ranks a tree is on it if its way is less than
         * all before; a later one of the same price with a still lesser way stands in its stead.
         */
        int placeOnFront(int i) {
            int found = NONE;
            int last = NONE;
            for (int k = 0; k < many; k++) {
                int place = placeRanked(k);
                if (last != NONE && list.ways[place] >= list.ways[last]) {
                    continue;
                }
                if (last == NONE || list.prices[place] > list.prices[last]) {
                    if (found == i) {
                        return last;
                    }
                    found++;
                }
                last = place;
            }
            return found == i ? last : NONE;
        }
    }

    /** Ways by swaps from good trees to one of them, the goal: sought from there, as far as was asked. */
    private static final class Route {
        private final TreeList list;
        private final GoodTrees goods;
        private final int[] far = new int[MOST_TREES];
        private final TreeBits unreached = new TreeBits();
        private int goal = NONE;
        private int linesUsed;
        private int layer;
        private boolean isSpreading;

        Route(TreeList list, GoodTrees goods) {
            this.list = list;
            this.goods = goods;
        }

        void forget() {
            goal = NONE;
        }

        int length(int start, int end) {
            if (goal != end) {
                standAt(end);
            }
            for (; far[start] == NONE && isSpreading && layer < MOST_TREES; layer++) {
                spreadLayer();
            }
            return far[start];
        }

        int treeAt(int start, int end, int i) {
            if (i < 0 || i > length(start, end)) {
                return NONE;
            }
            int place = start;
            for (int k = 0; k < i; k++) {
                place = nextOf(place);
            }
            return list.sets[place];
        }

        private void standAt(int end) {
            goal = end;
            linesUsed = 0;
            unreached.clear();
            for (int i = 0; i < goods.many; i++) {
                int place = goods.places[i];
                far[place] = NONE;
                linesUsed |= list.sets[place];
                unreached.put(list.sets[place]);
            }
            far[end] = 0;
            unreached.drop(list.sets[end]);
            layer = 0;
            isSpreading = true;
        }

        private void spreadLayer() {
            isSpreading = false;
            for (int i = 0; i < goods.many; i++) {
                if (far[goods.places[i]] == layer) {
                    spread(list.sets[goods.places[i]]);
                }
            }
        }

        private void spread(int set) {
            for (int outs = set; outs != 0; outs &= outs - 1) {
                int rest = set ^ outs & -outs;
                for (int ins = linesUsed & ~set; ins != 0; ins &= ins - 1) {
                    int other = rest | ins & -ins;
                    if (unreached.has(other)) {
                        reach(other);
                    }
                }
            }
        }

        private void reach(int set) {
            int place = list.placeOf(set);
            if (place != NONE) {
                far[place] = layer + 1;
                unreached.drop(set);
                isSpreading = true;
            }
        }

        /** The least tree, one swap on, that is nearer to the goal: all that are nearer have been reached. */
        private int nextOf(int place) {
            for (int i = 0; i < goods.many; i++) {
                int next = goods.places[i];
                if (far[next] == far[place] - 1 && Integer.bitCount(list.sets[next] ^ list.sets[place]) == 2) {
                    return next;
                }
            }
            return place;
        }
    }
}
