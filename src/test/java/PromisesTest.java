/** Promise by promise, on nets small enough to be reckoned by hand: what is ordinary, the edges, what is wrong. */
public final class PromisesTest {
    private static final int NONE = -1;
    private static final int[] WRONG = {Integer.MIN_VALUE, -1, Integer.MAX_VALUE};

    private final Due due = new Due("promises");

    public static void main(String[] args) {
        PromisesTest test = new PromisesTest();
        test.p01NewObject();
        test.p02Posts();
        test.p03Line();
        test.p04Cut();
        test.p05Price();
        test.p06Degree();
        test.p07Depth();
        test.p08Root();
        test.p09Load();
        test.p10Demand();
        test.p11Reds();
        test.p12Way();
        test.p13Tree();
        test.p14Breaks();
        test.p15Measure();
        test.p16Many();
        test.p17Good();
        test.p18Ranked();
        test.p19Slack();
        test.p20Bar();
        test.p21Front();
        test.p22Swaps();
        test.p23Step();
        test.p24Look();
        test.p25Count();
        test.refusedCallsChangeNothing();
        test.eachAnswerIsFresh();
        test.nothingOfTheLastNetIsLeft();
        test.objectsAreApart();
        test.due.end();
    }

    private void goods(String when, LimitTrees x, int... sets) {
        due.is(when + " many()", x.many(), sets.length);
        for (int i = 0; i < sets.length; i++) due.is(when + " good(" + i + ")", x.good(i), sets[i]);
        due.is(when + " good(" + sets.length + ")", x.good(sets.length), NONE);
    }

    private void atFirst(String when, LimitTrees x, int posts) {
        int[] told = {posts, 0, 0, 0, 7, 9999, 0, 14, 9999, 0};
        for (int what = 0; what < told.length; what++) due.is(when + " count(" + what + ")", x.count(what), told[what]);
        for (int v = 0; v < 8; v++) {
            due.is(when + " degree of " + v, x.count(20 + v), v < posts ? 14 : NONE);
            due.is(when + " demand of " + v, x.count(30 + v), v < posts ? 1 : NONE);
        }
        due.is(when + " look(0, 0)", x.look(0, 0), NONE);
        due.is(when + " tree(0)", x.tree(0), 0);
        due.is(when + " tree(1)", x.tree(1), NONE);
        due.is(when + " many()", x.many(), 0);
        due.is(when + " bar()", x.bar(), 0);
    }

    private void p01NewObject() {
        atFirst("new", new LimitTrees(), 2);
        due.is("NONE", LimitTrees.NONE, -1);
    }

    private void p02Posts() {
        for (int n = 2; n <= 8; n++) {
            LimitTrees x = Nets.triangle();
            x.cut(1, true);
            x.degree(1, 2);
            x.depth(3);
            x.root(2);
            x.load(8);
            x.demand(1, 4);
            x.reds(1, 2);
            x.way(77);
            x.many();
            due.is("posts", x.posts(n), true);
            atFirst("after posts(" + n + ")", x, n);
            due.is("line after posts", x.line(0, 1, 1, 0), 0);
            due.is("look(0, 4) after posts", x.look(0, 4), 0);
            due.is("count(9) after posts", x.count(9), n == 2 ? 1 : 0);
        }
        LimitTrees x = Nets.triangle();
        for (int n : new int[] {1, 0, 9, -1, Integer.MIN_VALUE, Integer.MAX_VALUE}) due.is("posts(" + n + ")", x.posts(n), false);
        goods("after posts refused", x, 3, 5, 6);
    }

    private void p03Line() {
        LimitTrees x = new LimitTrees();
        x.posts(8);
        due.is("line", x.line(7, 0, 0, 0), 0);
        due.is("line", x.line(0, 7, 999, 1), 1);
        due.is("one post twice", x.line(3, 3, 1, 0), NONE);
        due.is("post 8", x.line(8, 0, 1, 0), NONE);
        due.is("post 8", x.line(0, 8, 1, 0), NONE);
        for (int n : WRONG) {
            due.is("post a " + n, x.line(n, 0, 1, 0), NONE);
            due.is("post b " + n, x.line(0, n, 1, 0), NONE);
            due.is("price " + n, x.line(0, 1, n, 0), NONE);
            due.is("colour " + n, x.line(0, 1, 1, n), NONE);
        }
        due.is("price 1000", x.line(0, 1, 1000, 0), NONE);
        due.is("colour 2", x.line(0, 1, 1, 2), NONE);
        for (int e = 2; e < 14; e++) due.is("line " + e, x.line(e % 8, (e + 1) % 8, e, e % 2), e);
        due.is("a fifteenth line", x.line(0, 1, 1, 0), NONE);
        due.is("count(1)", x.count(1), 14);
        x.cut(13, true);
        due.is("a cut line is there still", x.line(0, 1, 1, 0), NONE);
    }

    private void p04Cut() {
        LimitTrees x = Nets.triangle();
        due.is("whole already", x.cut(0, false), false);
        due.is("cut", x.cut(0, true), true);
        due.is("cut already", x.cut(0, true), false);
        due.is("look", x.look(0, 4), 1);
        due.is("count(2)", x.count(2), 2);
        due.is("count(9)", x.count(9), 1);
        goods("line 0 cut", x, 6);
        due.is("whole", x.cut(0, false), true);
        goods("line 0 whole", x, 3, 5, 6);
        due.is("cut 3", x.cut(3, true), false);
        for (int e : WRONG) due.is("cut " + e, x.cut(e, true), false);
        for (int e : WRONG) due.is("cut " + e, x.cut(e, false), false);
        x.cut(1, true);
        due.is("a line beside a cut one", x.line(1, 2, 9, 0), 3);
        goods("line 1 cut", x, 5, 9, 12);
    }

    private void p05Price() {
        LimitTrees x = Nets.triangle();
        due.is("best", x.ranked(0), 6);
        due.is("price", x.price(1, 999), true);
        due.is("look", x.look(1, 2), 999);
        due.is("best", x.ranked(0), 5);
        due.is("measure", x.measure(3, 0), 1004);
        due.is("price 0", x.price(1, 0), true);
        due.is("the same again", x.price(1, 0), true);
        due.is("measure", x.measure(3, 5), 5);
        due.is("price 1000", x.price(1, 1000), false);
        due.is("price of 3", x.price(3, 1), false);
        for (int n : WRONG) {
            due.is("price " + n, x.price(1, n), false);
            due.is("price of " + n, x.price(n, 1), false);
        }
        due.is("look", x.look(1, 2), 0);
        x.cut(1, true);
        due.is("price of a cut one", x.price(1, 6), true);
        due.is("look", x.look(1, 2), 6);
    }

    private void p06Degree() {
        LimitTrees x = Nets.triangle();
        due.is("degree", x.degree(0, 1), true);
        goods("degree(0, 1)", x, 3, 6);
        due.is("degree", x.degree(1, 1), true);
        goods("and degree(1, 1)", x, 6);
        due.is("degree", x.degree(0, 2), true);
        goods("and degree(0, 2)", x, 5, 6);
        due.is("degree", x.degree(2, 0), true);
        goods("and degree(2, 0)", x);
        due.is("degree 14", x.degree(2, 14), true);
        goods("and degree(2, 14)", x, 5, 6);
        due.is("count", x.count(21), 1);
        due.is("degree 15", x.degree(0, 15), false);
        due.is("degree of 3", x.degree(3, 1), false);
        for (int n : WRONG) {
            due.is("degree " + n, x.degree(0, n), false);
            due.is("degree of " + n, x.degree(n, 1), false);
        }
        due.is("count", x.count(20), 2);
        sevenAtAPost();
    }

    private void sevenAtAPost() {
        LimitTrees x = new LimitTrees();
        x.posts(8);
        for (int v = 1; v < 8; v++) x.line(0, v, v, 0);
        x.degree(0, 7);
        goods("degree 7", x, 127);
        x.degree(0, 6);
        goods("degree 6", x);
        due.is("bar", x.bar(), 1);
        due.is("measure", x.measure(127, 1), 7);
    }

    private void p07Depth() {
        LimitTrees x = Nets.triangle();
        due.is("depth", x.depth(1), true);
        goods("depth(1)", x, 5);
        due.is("depth", x.depth(2), true);
        goods("depth(2)", x, 3, 5, 6);
        due.is("depth 0", x.depth(0), true);
        goods("depth(0)", x);
        due.is("depth 7", x.depth(7), true);
        due.is("depth 8", x.depth(8), false);
        for (int n : WRONG) due.is("depth " + n, x.depth(n), false);
        due.is("count", x.count(4), 7);
        LimitTrees row = new LimitTrees();
        row.posts(8);
        for (int v = 1; v < 8; v++) row.line(v - 1, v, 999, 1);
        due.is("depth of a row", row.measure(127, 2), 7);
        due.is("way of a row", row.measure(127, 5), 6993);
        due.is("depth", row.depth(6), true);
        due.is("breaks", row.breaks(127), 2);
        row.root(3);
        due.is("breaks", row.breaks(127), 0);
    }

    private void p08Root() {
        LimitTrees x = Nets.triangle();
        x.depth(1);
        goods("root 0", x, 5);
        due.is("root", x.root(1), true);
        goods("root 1", x, 3);
        due.is("root", x.root(2), true);
        goods("root 2", x, 6);
        due.is("count", x.count(3), 2);
        due.is("root 3", x.root(3), false);
        for (int v : WRONG) due.is("root " + v, x.root(v), false);
        due.is("count", x.count(3), 2);
        goods("root 2 still", x, 6);
    }

    private void p09Load() {
        LimitTrees x = Nets.triangle();
        due.is("load", x.load(1), true);
        goods("load(1)", x, 5);
        due.is("load", x.load(2), true);
        goods("load(2)", x, 3, 5, 6);
        due.is("load", x.load(0), true);
        goods("load(0)", x);
        due.is("load 9999", x.load(9999), true);
        due.is("load 10000", x.load(10000), false);
        for (int n : WRONG) due.is("load " + n, x.load(n), false);
        due.is("count", x.count(5), 9999);
    }

    private void p10Demand() {
        LimitTrees x = Nets.triangle();
        x.load(3);
        due.is("demand of the root", x.demand(0, 99), true);
        goods("the root's own hangs on no line", x, 3, 5, 6);
        due.is("demand", x.demand(1, 3), true);
        goods("demand(1, 3)", x, 5);
        due.is("measure", x.measure(6, 3), 4);
        due.is("demand", x.demand(2, 0), true);
        goods("demand(2, 0)", x, 3, 5, 6);
        due.is("count", x.count(30), 99);
        due.is("count", x.count(31), 3);
        due.is("demand 100", x.demand(1, 100), false);
        due.is("demand of 3", x.demand(3, 1), false);
        for (int n : WRONG) {
            due.is("demand " + n, x.demand(1, n), false);
            due.is("demand of " + n, x.demand(n, 1), false);
        }
        due.is("count", x.count(31), 3);
    }

    private void p11Reds() {
        LimitTrees x = Nets.triangle();
        due.is("reds", x.reds(2, 14), true);
        goods("reds(2, 14)", x, 6);
        due.is("reds", x.reds(0, 1), true);
        goods("reds(0, 1)", x, 3, 5);
        due.is("reds", x.reds(1, 1), true);
        goods("reds(1, 1)", x, 3, 5);
        due.is("reds", x.reds(0, 0), true);
        goods("reds(0, 0)", x);
        due.is("reds 14", x.reds(14, 14), true);
        goods("reds(14, 14)", x);
        due.is("reds", x.reds(0, 2), true);
        due.is("second below first", x.reds(2, 1), false);
        due.is("reds to 15", x.reds(0, 15), false);
        due.is("reds from 15", x.reds(15, 15), false);
        for (int n : WRONG) {
            due.is("reds from " + n, x.reds(n, 14), false);
            due.is("reds to " + n, x.reds(0, n), false);
            due.is("reds both " + n, x.reds(n, n), false);
        }
        due.is("count", x.count(6), 0);
        due.is("count", x.count(7), 2);
    }

    private void p12Way() {
        LimitTrees x = Nets.triangle();
        due.is("way", x.way(7), true);
        goods("way(7)", x, 5, 6);
        due.is("way", x.way(6), true);
        goods("way(6)", x, 5);
        due.is("way", x.way(8), true);
        goods("way(8)", x, 3, 5, 6);
        due.is("way", x.way(0), true);
        goods("way(0)", x);
        for (int e = 0; e < 3; e++) x.price(e, 0);
        goods("way(0), no prices", x, 3, 5, 6);
        due.is("way 9999", x.way(9999), true);
        due.is("way 10000", x.way(10000), false);
        for (int n : WRONG) due.is("way " + n, x.way(n), false);
        due.is("count", x.count(8), 9999);
    }

    private void p13Tree() {
        LimitTrees x = Nets.triangle();
        int[] answers = {0, 0, 0, 1, 0, 1, 1, 0, NONE};
        for (int set = 0; set < answers.length; set++) due.is("tree(" + set + ")", x.tree(set), answers[set]);
        for (int set : WRONG) due.is("tree(" + set + ")", x.tree(set), NONE);
        x.depth(0);
        due.is("a tree that breaks a limit", x.tree(3), 1);
        x.cut(0, true);
        due.is("a cut line is no such line of a tree", x.tree(3), 0);
        due.is("but it is a line", x.tree(1), 0);
        due.is("tree(6)", x.tree(6), 1);
        LimitTrees two = Nets.twice();
        due.is("a ring of two lines", two.tree(3), 0);
        due.is("tree(9)", two.tree(9), 1);
        LimitTrees four = new LimitTrees();
        four.posts(4);
        four.line(0, 1, 1, 0);
        four.line(1, 2, 1, 0);
        four.line(2, 0, 1, 0);
        due.is("three lines that leave a post alone", four.tree(7), 0);
        for (int e = 3; e < 14; e++) four.line(2, 3, 1, 0);
        due.is("the highest line", four.tree(3 | 1 << 13), 1);
        due.is("no line 14", four.tree(3 | 1 << 14), NONE);
    }

    private void p14Breaks() {
        LimitTrees x = Nets.triangle();
        due.is("breaks", x.breaks(3), 0);
        x.degree(1, 1);
        due.is("DEGREES", x.breaks(3), 1);
        x.depth(1);
        due.is("and DEPTH", x.breaks(3), 3);
        x.load(1);
        due.is("and LOAD", x.breaks(3), 7);
        x.reds(2, 2);
        due.is("and REDS", x.breaks(3), 15);
        x.way(7);
        due.is("and WAY", x.breaks(3), 31);
        due.is("of 5", x.breaks(5), 8);
        due.is("of 6", x.breaks(6), 6);
        due.is("no tree", x.breaks(7), NONE);
        due.is("no tree", x.breaks(0), NONE);
        due.is("no such lines", x.breaks(9), NONE);
        for (int set : WRONG) due.is("breaks(" + set + ")", x.breaks(set), NONE);
        x.cut(2, true);
        due.is("a cut line", x.breaks(6), NONE);
    }

    private void p15Measure() {
        LimitTrees x = Nets.triangle();
        int[][] measures = {{3, 8, 2, 2, 2, 1, 8}, {5, 9, 2, 1, 1, 1, 5}, {6, 7, 2, 2, 2, 2, 7}};
        for (int[] row : measures) {
            for (int what = 0; what < 6; what++) {
                due.is("measure(" + row[0] + ", " + what + ")", x.measure(row[0], what), row[what + 1]);
            }
            due.is("what 6", x.measure(row[0], 6), NONE);
            for (int what : WRONG) due.is("what " + what, x.measure(row[0], what), NONE);
        }
        due.is("no tree", x.measure(7, 0), NONE);
        due.is("no such lines", x.measure(8, 0), NONE);
        for (int set : WRONG) due.is("measure(" + set + ")", x.measure(set, 0), NONE);
        x.root(2);
        due.is("depth from 2", x.measure(3, 2), 2);
        due.is("way from 2", x.measure(3, 5), 8);
        due.is("depth from 2", x.measure(6, 2), 1);
        due.is("way from 2", x.measure(6, 5), 4);
        x.demand(0, 40);
        x.demand(1, 50);
        due.is("demands from 2", x.measure(6, 3), 50);
        due.is("demands from 2", x.measure(3, 3), 90);
        x.demand(0, 0);
        x.demand(1, 0);
        due.is("no demands", x.measure(3, 3), 0);
        x.cut(0, true);
        due.is("a cut line", x.measure(3, 0), NONE);
    }

    private void p16Many() {
        LimitTrees x = new LimitTrees();
        due.is("none", x.many(), 0);
        x.line(0, 1, 1, 0);
        due.is("one", x.many(), 1);
        x.line(1, 0, 1, 0);
        due.is("two", x.many(), 2);
        x.posts(4);
        for (int a = 0; a < 4; a++) for (int b = 0; b < a; b++) x.line(a, b, 1, 0);
        due.is("all lines of four posts", x.many(), 16);
        x.posts(5);
        for (int a = 0; a < 5; a++) for (int b = 0; b < a; b++) x.line(a, b, 1, 0);
        due.is("all lines of five posts", x.many(), 125);
        x.depth(1);
        due.is("one star", x.many(), 1);
    }

    private void p17Good() {
        LimitTrees x = Nets.twice();
        goods("all", x, 9, 10, 12, 17, 18, 20);
        for (int i : WRONG) due.is("good(" + i + ")", x.good(i), NONE);
        x.reds(1, 1);
        goods("one red", x, 9, 12, 18);
        x.line(0, 2, 7, 1);
        goods("with a new line", x, 9, 12, 18, 34, 40);
    }

    private void p18Ranked() {
        LimitTrees x = Nets.twice();
        int[] row = {10, 12, 18, 20, 9, 17};
        for (int i = 0; i < row.length; i++) due.is("ranked(" + i + ")", x.ranked(i), row[i]);
        due.is("ranked(6)", x.ranked(6), NONE);
        for (int i : WRONG) due.is("ranked(" + i + ")", x.ranked(i), NONE);
        x.way(5);
        due.is("within way 5", x.ranked(0), 10);
        due.is("within way 5", x.ranked(1), 12);
        due.is("within way 5", x.ranked(2), NONE);
        x.reds(2, 14);
        due.is("none", x.ranked(0), NONE);
        LimitTrees dear = new LimitTrees();
        dear.posts(8);
        for (int v = 1; v < 8; v++) dear.line(0, v, 999, 0);
        dear.line(0, 1, 998, 0);
        dear.line(0, 1, 872, 0);
        due.is("the greatest prices", dear.ranked(0), 256 + 126);
        due.is("the greatest prices", dear.ranked(1), 128 + 126);
        due.is("the greatest prices", dear.ranked(2), 127);
        due.is("the greatest prices", dear.measure(127, 0), 6993);
    }

    private void p19Slack() {
        LimitTrees x = Nets.triangle();
        due.is("not in the best", x.slack(0), 1);
        due.is("in the best", x.slack(1), 2);
        due.is("in the best", x.slack(2), 1);
        due.is("no line 3", x.slack(3), NONE);
        for (int e : WRONG) due.is("slack(" + e + ")", x.slack(e), NONE);
        x.degree(0, 1);
        due.is("the tree without it isn't good", x.slack(1), NONE);
        x.degree(0, 14);
        x.cut(0, true);
        due.is("cut", x.slack(0), NONE);
        due.is("no tree without it", x.slack(1), NONE);
        x.cut(0, false);
        x.depth(1);
        due.is("no good tree with it", x.slack(1), NONE);
        x.depth(0);
        due.is("no good tree", x.slack(0), NONE);
        LimitTrees two = Nets.twice();
        due.is("like prices", two.slack(1), 0);
        due.is("like prices", two.slack(2), 0);
        due.is("far dearer", two.slack(0), 9);
    }

    private void p20Bar() {
        LimitTrees x = Nets.triangle();
        due.is("there is a good tree", x.bar(), NONE);
        x.degree(0, 1);
        x.depth(1);
        due.is("DEGREES and DEPTH", x.bar(), 3);
        x.load(1);
        due.is("the least of like sets", x.bar(), 3);
        x.depth(7);
        due.is("DEGREES and LOAD", x.bar(), 5);
        x.way(4);
        due.is("WAY alone", x.bar(), 16);
        x.reds(0, 0);
        due.is("REDS alone, the lesser", x.bar(), 8);
        x.cut(0, true);
        x.cut(1, true);
        due.is("no tree at all", x.bar(), 0);
        x.cut(1, false);
        due.is("a tree again", x.bar(), 4);
        LimitTrees y = Nets.triangle();
        y.degree(0, 1);
        y.degree(1, 1);
        y.reds(0, 1);
        due.is("DEGREES and REDS", y.bar(), 9);
        y.degree(1, 14);
        y.way(7);
        due.is("three are needed", y.bar(), 25);
        y.posts(3);
        due.is("no lines", y.bar(), 0);
        LimitTrees z = new LimitTrees();
        z.line(0, 1, 1, 0);
        z.degree(0, 0);
        z.depth(0);
        z.load(0);
        z.reds(1, 1);
        z.way(0);
        due.is("its only tree breaks all", z.breaks(1), 31);
        due.is("each alone bars it", z.bar(), 1);
        z.degree(0, 1);
        due.is("each alone bars it", z.bar(), 2);
    }

    private void p21Front() {
        LimitTrees x = Nets.triangle();
        int[][] row = {{6, 7, 7}, {5, 9, 5}, {NONE, NONE, NONE}};
        for (int i = 0; i < row.length; i++) {
            for (int what = 0; what < 3; what++) due.is("front(" + i + ", " + what + ")", x.front(i, what), row[i][what]);
            due.is("what 3", x.front(i, 3), NONE);
            for (int what : WRONG) due.is("what " + what, x.front(i, what), NONE);
        }
        for (int i : WRONG) due.is("front(" + i + ", 0)", x.front(i, 0), NONE);
        x.price(0, 4);
        x.price(1, 4);
        due.is("like prices, the shorter way", x.front(0, 0), 5);
        due.is("its way", x.front(0, 2), 4);
        due.is("and no other", x.front(1, 0), NONE);
        x.depth(0);
        due.is("no good tree", x.front(0, 0), NONE);
        LimitTrees two = Nets.twice();
        due.is("alike in both, the first by bits", two.front(0, 0), 10);
        due.is("alike in both, the first by bits", two.front(1, 0), NONE);
    }

    private void p22Swaps() {
        LimitTrees x = Nets.twice();
        due.is("one", x.swaps(9, 9), 0);
        due.is("one line", x.swaps(9, 10), 1);
        due.is("two lines", x.swaps(9, 18), 2);
        x.way(12);
        due.is("still two", x.swaps(9, 18), 2);
        x.reds(1, 14);
        due.is("a way about", x.swaps(9, 18), 3);
        due.is("and back", x.swaps(18, 9), 3);
        due.is("not good", x.swaps(9, 17), NONE);
        due.is("not good", x.swaps(17, 9), NONE);
        due.is("not good itself", x.swaps(17, 17), NONE);
        due.is("no tree", x.swaps(9, 3), NONE);
        x.cut(2, true);
        due.is("no way", x.swaps(9, 18), NONE);
        due.is("no way", x.swaps(18, 9), NONE);
        due.is("a cut line", x.swaps(12, 12), NONE);
        due.is("one", x.swaps(18, 18), 0);
        x.cut(2, false);
        due.is("a way again", x.swaps(9, 18), 3);
        for (int set : WRONG) {
            due.is("swaps(9, " + set + ")", x.swaps(9, set), NONE);
            due.is("swaps(" + set + ", 9)", x.swaps(set, 9), NONE);
        }
        due.is("no such lines", x.swaps(9, 9 + 32), NONE);
        due.is("no such lines", x.swaps(9 + (1 << 14), 9), NONE);
    }

    private void p23Step() {
        LimitTrees x = Nets.twice();
        steps(x, 9);
        steps(x, 9, 10, 18);
        steps(x, 18, 10, 9);
        steps(x, 20, 12, 9);
        x.way(12);
        x.reds(1, 14);
        steps(x, 9, 12, 20, 18);
        steps(x, 18, 20, 12, 9);
        due.is("not good", x.step(17, 17, 0), NONE);
        due.is("not good", x.step(9, 17, 0), NONE);
        x.cut(2, true);
        due.is("no way", x.step(9, 18, 0), NONE);
        due.is("no way", x.step(9, 18, 1), NONE);
        for (int set : WRONG) {
            due.is("step(9, " + set + ", 0)", x.step(9, set, 0), NONE);
            due.is("step(" + set + ", 9, 0)", x.step(set, 9, 0), NONE);
        }
    }

    private void steps(LimitTrees x, int... row) {
        int a = row[0];
        int b = row[row.length - 1];
        for (int i = 0; i < row.length; i++) due.is("step(" + a + ", " + b + ", " + i + ")", x.step(a, b, i), row[i]);
        due.is("step(" + a + ", " + b + ", " + row.length + ")", x.step(a, b, row.length), NONE);
        for (int i : WRONG) due.is("step(" + a + ", " + b + ", " + i + ")", x.step(a, b, i), NONE);
    }

    private void p24Look() {
        LimitTrees x = Nets.triangle();
        x.cut(2, true);
        int[][] lines = {{0, 1, 5, 0, 0, NONE}, {1, 2, 3, 1, 0, NONE}, {2, 0, 4, 1, 1, NONE}};
        for (int e = 0; e < 3; e++) {
            for (int what = 0; what < 6; what++) due.is("look(" + e + ", " + what + ")", x.look(e, what), lines[e][what]);
            for (int what : WRONG) due.is("look(" + e + ", " + what + ")", x.look(e, what), NONE);
        }
        due.is("look(3, 0)", x.look(3, 0), NONE);
        for (int e : WRONG) due.is("look(" + e + ", 0)", x.look(e, 0), NONE);
    }

    private void p25Count() {
        LimitTrees x = Nets.triangle();
        x.cut(1, true);
        x.root(1);
        x.depth(2);
        x.load(33);
        x.reds(1, 3);
        x.way(44);
        x.degree(2, 5);
        x.demand(0, 6);
        int[] told = {3, 3, 2, 1, 2, 33, 1, 3, 44, 1, NONE};
        for (int what = 0; what < told.length; what++) due.is("count(" + what + ")", x.count(what), told[what]);
        int[] degrees = {NONE, 14, 14, 5, NONE};
        int[] demands = {NONE, 6, 1, 1, NONE};
        for (int i = 0; i < 5; i++) {
            due.is("count(" + (19 + i) + ")", x.count(19 + i), degrees[i]);
            due.is("count(" + (29 + i) + ")", x.count(29 + i), demands[i]);
        }
        for (int what : WRONG) due.is("count(" + what + ")", x.count(what), NONE);
        x.cut(1, false);
        x.depth(0);
        due.is("trees in all, no matter the limits", x.count(9), 3);
        x.posts(8);
        due.is("count(27)", x.count(27), 14);
        due.is("count(28)", x.count(28), NONE);
        due.is("count(37)", x.count(37), 1);
        due.is("count(38)", x.count(38), NONE);
    }

    private void refusedCallsChangeNothing() {
        LimitTrees x = Nets.triangle();
        x.posts(1);
        x.line(0, 0, 1, 0);
        x.line(0, 1, 1, 2);
        x.cut(0, false);
        x.cut(3, true);
        x.price(0, -1);
        x.degree(0, -1);
        x.depth(-1);
        x.root(-1);
        x.load(-1);
        x.demand(0, -1);
        x.reds(1, 0);
        x.reds(3, 15);
        x.way(-1);
        int[] told = {3, 3, 3, 0, 7, 9999, 0, 14, 9999, 3};
        for (int what = 0; what < told.length; what++) due.is("count(" + what + ")", x.count(what), told[what]);
        goods("after refused calls", x, 3, 5, 6);
        due.is("look", x.look(0, 2), 5);
    }

    /** Each question is the first one after a change. */
    private void eachAnswerIsFresh() {
        LimitTrees x = Nets.triangle();
        due.is("good", x.good(2), 6);
        x.cut(0, true);
        due.is("good", x.good(0), 6);
        x.cut(0, false);
        due.is("ranked", x.ranked(2), 5);
        x.price(0, 0);
        due.is("ranked", x.ranked(0), 3);
        x.price(0, 5);
        due.is("slack", x.slack(1), 2);
        x.price(0, 4);
        due.is("slack", x.slack(1), 1);
        x.depth(0);
        due.is("bar", x.bar(), 2);
        x.depth(1);
        due.is("one good tree is enough", x.bar(), NONE);
        x.depth(7);
        due.is("front", x.front(0, 0), 3);
        x.root(2);
        due.is("front", x.front(0, 0), 6);
        x.root(0);
        due.is("swaps", x.swaps(3, 6), 1);
        x.degree(1, 1);
        due.is("swaps", x.swaps(3, 6), NONE);
        x.degree(1, 2);
        due.is("step", x.step(3, 6, 1), 6);
        x.way(6);
        due.is("step", x.step(6, 3, 0), NONE);
        x.line(0, 1, 1, 0);
        due.is("count(9)", x.count(9), 5);
        x.cut(1, true);
        due.is("count(9)", x.count(9), 2);
        due.is("many", x.many(), 2);
        x.demand(1, 2);
        due.is("many", x.many(), 2);
        x.load(1);
        due.is("many", x.many(), 0);
    }

    private void nothingOfTheLastNetIsLeft() {
        LimitTrees x = Nets.triangle();
        x.degree(0, 1);
        due.is("many", x.many(), 2);
        due.is("swaps", x.swaps(3, 6), 1);
        x.posts(3);
        x.line(0, 1, 1, 0);
        x.line(0, 1, 1, 0);
        x.line(0, 2, 1, 0);
        due.is("no tree any more", x.tree(3), 0);
        due.is("a tree", x.tree(5), 1);
        due.is("no line is red", x.measure(5, 4), 0);
        due.is("look", x.look(1, 3), 0);
        goods("the new net", x, 5, 6);
        due.is("swaps", x.swaps(5, 6), 1);
    }

    private void objectsAreApart() {
        LimitTrees x = Nets.triangle();
        LimitTrees y = Nets.twice();
        x.depth(1);
        goods("the one", x, 5);
        goods("the other", y, 9, 10, 12, 17, 18, 20);
        goods("the one again", x, 5);
    }
}
