import java.util.function.Consumer;
import java.util.function.Supplier;

/**
 * Promises 1 to 12, a case for each boundary that the document names beyond the ends of the numbers (EdgesTest): what
 * is so at first, what is refused for what is there already, and a limit that a tree just keeps, or just breaks.
 */
public final class TellingBoundariesTest {
    private static final int NONE = -1;

    private final Due due = new Due("telling boundaries");
    private final Refused refused = new Refused(due);

    public static void main(String[] args) throws Exception {
        TellingBoundariesTest test = new TellingBoundariesTest();
        Cases.run(test, test.due, 1, 2, 3, 4, 5, 6, 7, 8, 9, 10, 11, 12);
    }

    private void refuses(String what, Supplier<LimitTrees> net, Consumer<LimitTrees> call) {
        refused.changesNothing(what, net, call);
    }

    /** The only tree of a net is good, or breaks this limit alone, which then bars. */
    private void onlyTree(String when, LimitTrees x, int set, int broken) {
        due.is(when + ": breaks(" + set + ")", x.breaks(set), broken);
        due.is(when + ": many()", x.many(), broken == 0 ? 1 : 0);
        due.is(when + ": good(0)", x.good(0), broken == 0 ? set : NONE);
        due.is(when + ": bar()", x.bar(), broken == 0 ? NONE : broken);
        due.is(when + ": tree(" + set + ")", x.tree(set), 1);
    }

    private static LimitTrees changedInAll() {
        LimitTrees x = Nets.doubledStar();
        x.cut(0, true);
        for (int v = 0; v < 8; v++) {
            x.degree(v, v);
            x.demand(v, 90 + v);
        }
        x.depth(2);
        x.root(7);
        x.load(500);
        x.reds(3, 4);
        x.way(1998);
        return x;
    }

    void p01TwoPosts() {
        LimitTrees x = new LimitTrees();
        due.is("count(0)", x.count(0), 2);
        due.is("post 1 is there", x.root(1), true);
        due.is("post 2 is not", x.root(2), false);
        due.is("a line between them", x.line(0, 1, 0, 0), 0);
        due.is("a line to post 2", x.line(0, 2, 0, 0), NONE);
    }

    void p01NoneIsMinusOne() {
        due.is("NONE", LimitTrees.NONE, -1);
    }

    void p01NoLines() {
        LimitTrees x = new LimitTrees();
        due.is("count(1)", x.count(1), 0);
        due.is("count(2)", x.count(2), 0);
        for (int what = 0; what <= 4; what++) due.is("look(0, " + what + ")", x.look(0, what), NONE);
        due.is("cut", x.cut(0, true), false);
        due.is("whole", x.cut(0, false), false);
        due.is("price", x.price(0, 0), false);
    }

    void p01LimitsAsAtFirst() {
        LimitTrees x = new LimitTrees();
        int[] told = {0, 7, 9999, 0, 14, 9999};
        for (int i = 0; i < told.length; i++) due.is("count(" + (3 + i) + ")", x.count(3 + i), told[i]);
        for (int v = 0; v < 2; v++) due.is("degree of " + v, x.count(20 + v), 14);
        for (int v = 0; v < 2; v++) due.is("demand of " + v, x.count(30 + v), 1);
        due.is("degree of post 2", x.count(22), NONE);
        due.is("demand of post 2", x.count(32), NONE);
    }

    void p01FirstLimitsBarNothing() {
        LimitTrees x = new LimitTrees();
        for (int e = 0; e < 14; e++) x.line(0, 1, 999, e % 2);
        due.is("many()", x.many(), 14);
        due.is("breaks(8192)", x.breaks(8192), 0);
        due.is("bar()", x.bar(), NONE);
    }

    void p01SameAsPosts2() {
        due.is("alike", Answers.of(LimitTrees::new).equals(Answers.of(() -> {
            LimitTrees x = changedInAll();
            x.posts(2);
            return x;
        })), true);
    }

    void p02EveryNumberAnewFromAFullNet() {
        for (int posts = 2; posts <= 8; posts++) {
            int n = posts;
            Supplier<LimitTrees> anew = () -> {
                LimitTrees x = new LimitTrees();
                x.posts(n);
                return x;
            };
            Supplier<LimitTrees> again = () -> {
                LimitTrees x = changedInAll();
                x.many();
                x.posts(n);
                return x;
            };
            due.is("posts(" + n + ") as on a new object", Answers.of(again).equals(Answers.of(anew)), true);
        }
    }

    void p02SameNumberEmptiesToo() {
        LimitTrees x = Nets.square();
        due.is("posts(4)", x.posts(4), true);
        due.is("count(1)", x.count(1), 0);
        due.is("many()", x.many(), 0);
        due.is("tree(7)", x.tree(7), NONE);
    }

    void p02NoLines() {
        LimitTrees x = changedInAll();
        x.posts(8);
        due.is("count(1)", x.count(1), 0);
        due.is("count(2)", x.count(2), 0);
        due.is("a line is the first again", x.line(0, 1, 5, 0), 0);
        due.is("its price", x.look(0, 2), 5);
        due.is("its colour", x.look(0, 3), 0);
        due.is("it is whole", x.look(0, 4), 0);
        due.is("whole ones", x.count(2), 1);
        for (int e = 1; e < 14; e++) due.is("line " + e, x.line(0, 1, 5, 0), e);
    }

    void p02DegreesAsAtFirst() {
        LimitTrees x = changedInAll();
        x.posts(8);
        for (int v = 0; v < 8; v++) due.is("degree of " + v, x.count(20 + v), 14);
    }

    void p02DegreesOfPostsThatWereAway() {
        LimitTrees x = changedInAll();
        x.posts(2);
        x.posts(8);
        for (int v = 0; v < 8; v++) due.is("degree of " + v, x.count(20 + v), 14);
        for (int v = 0; v < 8; v++) due.is("demand of " + v, x.count(30 + v), 1);
    }

    void p02FirstDegreesBarNothing() {
        LimitTrees x = changedInAll();
        x.posts(8);
        for (int v = 1; v < 8; v++) x.line(0, v, 999, 1);
        onlyTree("after posts(8)", x, 127, 0);
    }

    void p02DepthAsAtFirst() {
        LimitTrees x = changedInAll();
        x.posts(8);
        due.is("count(4)", x.count(4), 7);
    }

    void p02RootAsAtFirst() {
        LimitTrees x = changedInAll();
        x.posts(8);
        due.is("count(3)", x.count(3), 0);
        LimitTrees y = changedInAll();
        y.posts(2);
        due.is("the root 7 of two posts", y.count(3), 0);
    }

    void p02LoadAsAtFirst() {
        LimitTrees x = changedInAll();
        x.posts(8);
        due.is("count(5)", x.count(5), 9999);
    }

    void p02DemandsAsAtFirst() {
        LimitTrees x = changedInAll();
        x.posts(8);
        for (int v = 0; v < 8; v++) due.is("demand of " + v, x.count(30 + v), 1);
    }

    void p02RedsAsAtFirst() {
        LimitTrees x = changedInAll();
        x.posts(8);
        due.is("count(6)", x.count(6), 0);
        due.is("count(7)", x.count(7), 14);
    }

    void p02WayAsAtFirst() {
        LimitTrees x = changedInAll();
        x.posts(8);
        due.is("count(8)", x.count(8), 9999);
    }

    void p02NothingOfTheFormerNetIsLeft() {
        Supplier<LimitTrees> again = () -> {
            LimitTrees x = Nets.doubledStar();
            x.reds(7, 7);
            x.swaps(x.good(0), x.ranked(127));
            x.posts(3);
            x.line(0, 1, 5, 0);
            x.line(1, 2, 3, 1);
            x.line(2, 0, 4, 1);
            return x;
        };
        due.is("as on a new object", Answers.of(again).equals(Answers.of(Nets::triangle)), true);
    }

    void p02TreesOfTheFormerNetAreNone() {
        Supplier<LimitTrees> again = () -> {
            LimitTrees x = Nets.square();
            x.many();
            x.posts(4);
            x.line(0, 1, 5, 0);
            x.line(1, 2, 3, 1);
            x.line(2, 0, 4, 1);
            return x;
        };
        due.is("tree(7)", again.get().tree(7), 0);
        due.is("as on a new object", Answers.of(again).equals(Answers.of(Nets::postAlone)), true);
    }

    void p02RefusedKeepsAll() {
        for (int n : new int[] {Integer.MIN_VALUE, -1, 0, 1, 9, 10, Integer.MAX_VALUE}) {
            due.is("posts(" + n + ")", changedInAll().posts(n), false);
        }
        Supplier<LimitTrees> net = TellingBoundariesTest::changedInAll;
        refuses("posts(1)", net, x -> x.posts(1));
        refuses("posts(9)", net, x -> x.posts(9));
    }

    void p03OnePostTwice() {
        Supplier<LimitTrees> net = () -> Nets.row(8);
        for (int post = 0; post < 8; post++) {
            int v = post;
            due.is("line(" + v + ", " + v + ", 1, 0)", net.get().line(v, v, 1, 0), NONE);
            refuses("line(" + v + ", " + v + ", 1, 0)", net, x -> x.line(v, v, 1, 0));
        }
    }

    void p03OneWrongPostTwice() {
        for (int v : new int[] {Integer.MIN_VALUE, -1, 4, Integer.MAX_VALUE}) {
            due.is("line(" + v + ", " + v + ", 1, 0)", Nets.square().line(v, v, 1, 0), NONE);
        }
    }

    void p03FourteenthLine() {
        LimitTrees x = new LimitTrees();
        for (int e = 0; e < 13; e++) x.line(0, 1, e, 0);
        due.is("the fourteenth", x.line(1, 0, 999, 1), 13);
        due.is("count(1)", x.count(1), 14);
        due.is("it is in use", x.tree(1 << 13), 1);
        due.is("its price", x.measure(1 << 13, 0), 999);
        due.is("its colour", x.measure(1 << 13, 4), 1);
        due.is("many()", x.many(), 14);
    }

    void p03FifteenthLine() {
        Supplier<LimitTrees> net = Nets::doubledRow;
        due.is("the fifteenth", net.get().line(0, 1, 1, 0), NONE);
        refuses("the fifteenth", net, x -> x.line(0, 1, 1, 0));
    }

    void p03FifteenthLineThoughAllAreCut() {
        Supplier<LimitTrees> net = () -> {
            LimitTrees x = Nets.doubledStar();
            for (int e = 0; e < 14; e++) x.cut(e, true);
            return x;
        };
        due.is("the fifteenth", net.get().line(0, 1, 1, 0), NONE);
        refuses("the fifteenth", net, x -> x.line(0, 1, 1, 0));
    }

    void p03FifteenthLineAgainAndAgain() {
        LimitTrees x = Nets.doubledRow();
        for (int i = 0; i < 40; i++) due.is("line " + (14 + i), x.line(0, 1, 1, 0), NONE);
        due.is("count(1)", x.count(1), 14);
        due.is("many()", x.many(), 128);
    }

    void p03NumberAfterARefusedOne() {
        LimitTrees x = new LimitTrees();
        due.is("refused", x.line(0, 1, 1000, 0), NONE);
        due.is("the first", x.line(0, 1, 999, 0), 0);
        due.is("refused", x.line(1, 1, 1, 0), NONE);
        due.is("the second", x.line(1, 0, 1, 0), 1);
    }

    void p03SeveralBetweenTwo() {
        LimitTrees x = new LimitTrees();
        for (int e = 0; e < 14; e++) due.is("line " + e, x.line(e % 2, 1 - e % 2, e, 0), e);
        due.is("trees", x.count(9), 14);
        for (int e = 0; e < 14; e++) due.is("good(" + e + ")", x.good(e), 1 << e);
    }

    void p03PostsAsTold() {
        LimitTrees x = new LimitTrees();
        x.posts(8);
        x.line(7, 0, 1, 0);
        x.line(0, 7, 1, 0);
        due.is("look(0, 0)", x.look(0, 0), 7);
        due.is("look(0, 1)", x.look(0, 1), 0);
        due.is("look(1, 0)", x.look(1, 0), 0);
        due.is("look(1, 1)", x.look(1, 1), 7);
    }

    void p03NewLineIsWhole() {
        LimitTrees x = new LimitTrees();
        x.line(0, 1, 1, 0);
        x.cut(0, true);
        due.is("line", x.line(0, 1, 1, 0), 1);
        due.is("it is cut", x.look(1, 4), 0);
        due.is("good(0)", x.good(0), 2);
    }

    void p03NewLineCountsAtOnce() {
        LimitTrees x = Nets.row(2);
        due.is("many()", x.many(), 1);
        due.is("slack(0)", x.slack(0), NONE);
        due.is("line", x.line(0, 1, 1, 0), 1);
        due.is("ranked(0)", x.ranked(0), 2);
        due.is("slack(0)", x.slack(0), 998);
        due.is("many()", x.many(), 2);
    }

    void p03PostOfAFormerNet() {
        LimitTrees x = Nets.row(8);
        x.posts(3);
        due.is("line to post 3", x.line(0, 3, 1, 0), NONE);
        due.is("line to post 7", x.line(7, 0, 1, 0), NONE);
        due.is("line to post 2", x.line(0, 2, 1, 0), 0);
    }

    void p04WholeIsWhole() {
        Supplier<LimitTrees> net = Nets::square;
        for (int line = 0; line < 5; line++) {
            int e = line;
            due.is("cut(" + e + ", false)", net.get().cut(e, false), false);
            refuses("cut(" + e + ", false)", net, x -> x.cut(e, false));
        }
    }

    void p04CutIsCut() {
        for (int line = 0; line < 5; line++) {
            int e = line;
            Supplier<LimitTrees> net = () -> {
                LimitTrees x = Nets.square();
                x.cut(e, true);
                return x;
            };
            due.is("cut(" + e + ", true)", net.get().cut(e, true), false);
            refuses("cut(" + e + ", true)", net, x -> x.cut(e, true));
        }
    }

    void p04CutAndWholeAgain() {
        due.is("as it was", Answers.of(Nets::doubledRow).equals(Answers.of(() -> {
            LimitTrees x = Nets.doubledRow();
            for (int e = 0; e < 14; e++) x.cut(e, true);
            for (int e = 13; e >= 0; e--) x.cut(e, false);
            return x;
        })), true);
    }

    void p04LastOfFourteen() {
        LimitTrees x = Nets.doubledRow();
        due.is("cut(13, true)", x.cut(13, true), true);
        due.is("many()", x.many(), 64);
        due.is("the last good tree", x.good(63), (63 << 7) + 64);
        due.is("cut(13, false)", x.cut(13, false), true);
        due.is("many()", x.many(), 128);
    }

    void p04AllCut() {
        LimitTrees x = Nets.square();
        for (int e = 0; e < 5; e++) due.is("cut(" + e + ", true)", x.cut(e, true), true);
        due.is("whole ones", x.count(2), 0);
        due.is("lines", x.count(1), 5);
        due.is("trees", x.count(9), 0);
    }

    void p04OtherLinesStay() {
        LimitTrees x = Nets.square();
        x.cut(2, true);
        for (int e = 0; e < 5; e++) due.is("look(" + e + ", 4)", x.look(e, 4), e == 2 ? 1 : 0);
    }

    void p05SameAgain() {
        LimitTrees x = Nets.square();
        due.is("price(3, 4), as it is", x.price(3, 4), true);
        due.is("look(3, 2)", x.look(3, 2), 4);
    }

    void p05OfACutLine() {
        LimitTrees x = Nets.square();
        x.cut(0, true);
        due.is("price(0, 999)", x.price(0, 999), true);
        due.is("look(0, 2)", x.look(0, 2), 999);
        due.is("it is cut still", x.look(0, 4), 1);
        x.cut(0, false);
        due.is("measure(7, 0)", x.measure(7, 0), 1002);
    }

    void p05AllAtNothing() {
        LimitTrees x = Nets.doubledRow();
        for (int e = 0; e < 14; e++) due.is("price(" + e + ", 0)", x.price(e, 0), true);
        due.is("measure(127, 0)", x.measure(127, 0), 0);
        due.is("measure(127, 5)", x.measure(127, 5), 0);
        due.is("ranked(0)", x.ranked(0), 127);
        due.is("ranked(127)", x.ranked(127), 16256);
        x.way(0);
        due.is("many() within way 0", x.many(), 128);
    }

    void p05AllAsDearAsCanBe() {
        LimitTrees x = Nets.doubledRow();
        for (int e = 0; e < 14; e++) due.is("price(" + e + ", 999)", x.price(e, 999), true);
        due.is("measure(16256, 0)", x.measure(16256, 0), 6993);
        due.is("measure(16256, 5)", x.measure(16256, 5), 6993);
        due.is("ranked(0)", x.ranked(0), 127);
    }

    void p05OneRightOneWrong() {
        due.is("a line, no price", Nets.square().price(4, 1000), false);
        due.is("a price, no line", Nets.square().price(5, 999), false);
        due.is("neither", Nets.square().price(5, 1000), false);
    }

    void p06JustKeptJustBroken() {
        for (int n = 2; n <= 8; n++) {
            LimitTrees x = Nets.star(n);
            int tree = (1 << n - 1) - 1;
            x.degree(0, n - 1);
            onlyTree("degree " + (n - 1) + " of " + n + " posts", x, tree, 0);
            x.degree(0, n - 2);
            onlyTree("degree " + (n - 2) + " of " + n + " posts", x, tree, 1);
            x.degree(0, n);
            onlyTree("degree " + n + " of " + n + " posts", x, tree, 0);
        }
    }

    void p06AtAnyPost() {
        for (int v = 0; v < 8; v++) {
            LimitTrees x = Nets.row(8);
            int lines = v == 0 || v == 7 ? 1 : 2;
            x.degree(v, lines);
            onlyTree("post " + v + ", degree " + lines, x, 127, 0);
            x.degree(v, lines - 1);
            onlyTree("post " + v + ", degree " + (lines - 1), x, 127, 1);
        }
    }

    void p06None() {
        for (int v = 0; v < 8; v++) {
            LimitTrees x = Nets.doubledRow();
            due.is("degree(" + v + ", 0)", x.degree(v, 0), true);
            due.is("many()", x.many(), 0);
            due.is("bar()", x.bar(), 1);
            due.is("degree(" + v + ", 14)", x.degree(v, 14), true);
            due.is("many()", x.many(), 128);
        }
    }

    void p06ParallelLinesOutsideTheTreeDoNotCount() {
        LimitTrees x = new LimitTrees();
        for (int e = 0; e < 14; e++) x.line(0, 1, 1, 0);
        x.degree(0, 1);
        x.degree(1, 1);
        due.is("many()", x.many(), 14);
    }

    void p06OneRightOneWrong() {
        due.is("a post, no number", Nets.square().degree(3, 15), false);
        due.is("a number, no post", Nets.square().degree(4, 14), false);
        due.is("neither", Nets.square().degree(-1, -1), false);
    }

    void p07JustKeptJustBroken() {
        for (int n = 2; n <= 8; n++) {
            LimitTrees x = Nets.row(n);
            int tree = (1 << n - 1) - 1;
            x.depth(n - 1);
            onlyTree("depth " + (n - 1) + " of " + n + " posts", x, tree, 0);
            x.depth(n - 2);
            onlyTree("depth " + (n - 2) + " of " + n + " posts", x, tree, 2);
        }
    }

    void p07FromTheRoot() {
        int[] depths = {7, 6, 5, 4, 4, 5, 6, 7};
        for (int v = 0; v < 8; v++) {
            LimitTrees x = Nets.row(8);
            x.root(v);
            x.depth(depths[v]);
            onlyTree("root " + v + ", depth " + depths[v], x, 127, 0);
            x.depth(depths[v] - 1);
            onlyTree("root " + v + ", depth " + (depths[v] - 1), x, 127, 2);
        }
    }

    void p07NoneBarsAll() {
        LimitTrees x = Nets.doubledStar();
        due.is("depth(0)", x.depth(0), true);
        due.is("many()", x.many(), 0);
        due.is("bar()", x.bar(), 2);
        due.is("depth(1)", x.depth(1), true);
        due.is("many()", x.many(), 128);
    }

    void p07MostBarsNone() {
        LimitTrees x = Nets.doubledRow();
        x.depth(6);
        due.is("many()", x.many(), 0);
        due.is("depth(7)", x.depth(7), true);
        due.is("many()", x.many(), 128);
    }

    void p08LastPost() {
        LimitTrees x = Nets.row(8);
        due.is("root(7)", x.root(7), true);
        due.is("measure(127, 2)", x.measure(127, 2), 7);
        due.is("root(6)", x.root(6), true);
        due.is("measure(127, 2)", x.measure(127, 2), 6);
    }

    void p08SameAgain() {
        LimitTrees x = Nets.square();
        due.is("root(0), as it is", x.root(0), true);
        due.is("count(3)", x.count(3), 0);
    }

    void p08PostOfAFormerNet() {
        LimitTrees x = Nets.row(8);
        x.root(7);
        x.posts(4);
        due.is("root(4)", x.root(4), false);
        due.is("root(7)", x.root(7), false);
        due.is("count(3)", x.count(3), 0);
        due.is("root(3)", x.root(3), true);
    }

    void p09JustKeptJustBroken() {
        LimitTrees x = Nets.row(8);
        for (int v = 0; v < 8; v++) x.demand(v, 99);
        x.load(693);
        onlyTree("load 693", x, 127, 0);
        x.load(692);
        onlyTree("load 692", x, 127, 4);
    }

    void p09BranchesAreApart() {
        LimitTrees x = Nets.star(8);
        x.load(1);
        onlyTree("load 1", x, 127, 0);
        x.load(0);
        onlyTree("load 0", x, 127, 4);
    }

    void p09GreatestBranchCounts() {
        LimitTrees x = Nets.row(8);
        x.root(2);
        x.load(5);
        onlyTree("load 5", x, 127, 0);
        x.load(4);
        onlyTree("load 4", x, 127, 4);
        x.demand(0, 90);
        x.load(91);
        onlyTree("load 91", x, 127, 0);
        x.load(90);
        onlyTree("load 90", x, 127, 4);
    }

    void p09NoneWithoutDemands() {
        LimitTrees x = Nets.row(8);
        for (int v = 1; v < 8; v++) x.demand(v, 0);
        due.is("load(0)", x.load(0), true);
        onlyTree("load 0, no demands", x, 127, 0);
        x.demand(7, 1);
        onlyTree("load 0, a demand of 1", x, 127, 4);
    }

    void p09MostBarsNone() {
        LimitTrees x = Nets.row(8);
        for (int v = 0; v < 8; v++) x.demand(v, 99);
        due.is("load(9999)", x.load(9999), true);
        onlyTree("load 9999", x, 127, 0);
    }

    void p10RootsOwnIsInNoBranch() {
        LimitTrees x = Nets.row(2);
        x.load(1);
        due.is("demand(0, 99)", x.demand(0, 99), true);
        onlyTree("the root's 99", x, 1, 0);
        x.root(1);
        onlyTree("the other's 99", x, 1, 4);
        x.load(99);
        onlyTree("load 99", x, 1, 0);
    }

    void p10LeastAndMostInABranch() {
        LimitTrees x = Nets.row(3);
        x.demand(1, 99);
        x.demand(2, 99);
        due.is("measure(3, 3)", x.measure(3, 3), 198);
        x.demand(1, 0);
        due.is("measure(3, 3)", x.measure(3, 3), 99);
        x.demand(2, 0);
        due.is("measure(3, 3)", x.measure(3, 3), 0);
    }

    void p10SameAgain() {
        LimitTrees x = Nets.square();
        due.is("demand(1, 1), as it is", x.demand(1, 1), true);
        due.is("count(31)", x.count(31), 1);
    }

    void p10OneRightOneWrong() {
        due.is("a post, no number", Nets.square().demand(3, 100), false);
        due.is("a number, no post", Nets.square().demand(4, 99), false);
        due.is("neither", Nets.square().demand(-1, -1), false);
    }

    void p11SecondBelowFirst() {
        Supplier<LimitTrees> net = () -> {
            LimitTrees x = Nets.square();
            x.reds(1, 2);
            return x;
        };
        for (int from = 1; from <= 14; from++) {
            int first = from;
            due.is("reds(" + first + ", " + (first - 1) + ")", net.get().reds(first, first - 1), false);
            due.is("reds(" + first + ", 0)", net.get().reds(first, 0), false);
            refuses("reds(" + first + ", " + (first - 1) + ")", net, x -> x.reds(first, first - 1));
        }
    }

    void p11OneRightOneWrong() {
        Supplier<LimitTrees> net = () -> {
            LimitTrees x = Nets.square();
            x.reds(1, 2);
            return x;
        };
        due.is("reds(0, 15)", net.get().reds(0, 15), false);
        due.is("reds(14, 15)", net.get().reds(14, 15), false);
        due.is("reds(15, 14)", net.get().reds(15, 14), false);
        due.is("reds(-1, 0)", net.get().reds(-1, 0), false);
        due.is("reds(0, -1)", net.get().reds(0, -1), false);
        refuses("reds(0, 15)", net, x -> x.reds(0, 15));
        refuses("reds(-1, 0)", net, x -> x.reds(-1, 0));
    }

    void p11EndsOfInt() {
        LimitTrees x = Nets.square();
        due.is("all ints", x.reds(Integer.MIN_VALUE, Integer.MAX_VALUE), false);
        due.is("the wrong way round", x.reds(Integer.MAX_VALUE, Integer.MIN_VALUE), false);
        due.is("count(6)", x.count(6), 0);
        due.is("count(7)", x.count(7), 14);
    }

    void p11JustKeptJustBroken() {
        for (int red = 0; red <= 7; red++) {
            LimitTrees x = new LimitTrees();
            x.posts(8);
            for (int e = 0; e < 7; e++) x.line(e, e + 1, 1, e < red ? 1 : 0);
            x.reds(red, red);
            onlyTree(red + " red, just so many", x, 127, 0);
            x.reds(red, 14);
            onlyTree(red + " red, so many or more", x, 127, 0);
            x.reds(0, red);
            onlyTree(red + " red, so many or less", x, 127, 0);
            x.reds(red + 1, 14);
            onlyTree(red + " red, one more at least", x, 127, 8);
            if (red > 0) {
                x.reds(0, red - 1);
                onlyTree(red + " red, one less at most", x, 127, 8);
            }
        }
    }

    void p11FourteenAreTooMany() {
        LimitTrees x = Nets.doubledStar();
        due.is("reds(14, 14)", x.reds(14, 14), true);
        due.is("many()", x.many(), 0);
        due.is("bar()", x.bar(), 8);
        due.is("reds(8, 14)", x.reds(8, 14), true);
        due.is("many()", x.many(), 0);
        due.is("reds(7, 14)", x.reds(7, 14), true);
        due.is("many()", x.many(), 128);
    }

    void p12JustKeptJustBroken() {
        LimitTrees x = Nets.row(8);
        x.way(6993);
        onlyTree("way 6993", x, 127, 0);
        x.way(6992);
        onlyTree("way 6992", x, 127, 16);
    }

    void p12GreatestSumNotAllPrices() {
        LimitTrees x = Nets.star(8);
        x.way(7);
        onlyTree("way 7", x, 127, 0);
        x.way(6);
        onlyTree("way 6", x, 127, 16);
    }

    void p12NoneWithoutPrices() {
        LimitTrees x = Nets.row(8);
        for (int e = 0; e < 7; e++) x.price(e, 0);
        due.is("way(0)", x.way(0), true);
        onlyTree("way 0, no prices", x, 127, 0);
        x.price(6, 1);
        onlyTree("way 0, a price of 1", x, 127, 16);
    }

    void p12MostBarsNone() {
        LimitTrees x = Nets.row(8);
        due.is("way(9999)", x.way(9999), true);
        onlyTree("way 9999", x, 127, 0);
    }
}
