import java.util.function.Supplier;

/**
 * Promises 13 to 25, a case for each boundary that the document names beyond the ends of the numbers (EdgesTest) and
 * beyond nets that are empty or full (EmptyAndFullTest).
 */
public final class AskingBoundariesTest {
    private static final int NONE = -1;

    private final Due due = new Due("asking boundaries");
    private final Refused refused = new Refused(due);

    public static void main(String[] args) throws Exception {
        AskingBoundariesTest test = new AskingBoundariesTest();
        Cases.run(test, test.due, 13, 14, 15, 16, 17, 18, 19, 20, 21, 22, 23, 24, 25);
    }

    private void row(String name, int... gotAndWant) {
        for (int i = 0; i + 1 < gotAndWant.length; i += 2) due.is(name + ", answer " + i / 2, gotAndWant[i], gotAndWant[i + 1]);
    }

    private void steps(LimitTrees x, int... trees) {
        int a = trees[0];
        int last = trees.length - 1;
        int b = trees[last];
        due.is("swaps(" + a + ", " + b + ")", x.swaps(a, b), last);
        for (int i = 0; i <= last; i++) due.is("step(" + a + ", " + b + ", " + i + ")", x.step(a, b, i), trees[i]);
        due.is("step(" + a + ", " + b + ", -1)", x.step(a, b, -1), NONE);
        due.is("step(" + a + ", " + b + ", " + (last + 1) + ")", x.step(a, b, last + 1), NONE);
    }

    private void noWay(LimitTrees x, int a, int b) {
        due.is("swaps(" + a + ", " + b + ")", x.swaps(a, b), NONE);
        for (int i = -1; i <= 2; i++) due.is("step(" + a + ", " + b + ", " + i + ")", x.step(a, b, i), NONE);
    }

    void p13OneLineTooFew() {
        due.is("two lines for four posts", Nets.square().tree(3), 0);
        for (int e = 0; e < 7; e++) due.is("the row of eight posts without line " + e, Nets.row(8).tree(127 ^ 1 << e), 0);
        for (int e = 7; e < 14; e++) due.is("a tree of fourteen without line " + e, Nets.doubledRow().tree(16256 ^ 1 << e), 0);
    }

    void p13OneLineTooMany() {
        due.is("four lines for four posts", Nets.square().tree(15), 0);
        due.is("all lines", Nets.square().tree(31), 0);
        for (int e = 0; e < 7; e++) due.is("a tree of fourteen and line " + e, Nets.doubledRow().tree(16256 | 1 << e), 0);
        for (int e = 7; e < 14; e++) due.is("a tree of fourteen and line " + e, Nets.doubledRow().tree(127 | 1 << e), 0);
        due.is("two lines for two posts", Nets.with(Nets.row(2), x -> x.line(0, 1, 1, 0)).tree(3), 0);
    }

    void p13RingOfAsManyLinesAsATree() {
        due.is("a ring, and post 3 alone", Nets.square().tree(19), 0);
        due.is("two lines between the same posts", Nets.twice().tree(3), 0);
        due.is("two in the full net", Nets.doubledRow().tree(63 + 128), 0);
    }

    void p13EmptySet() {
        due.is("no lines of two posts", Nets.row(2).tree(0), 0);
        due.is("no lines of eight posts", Nets.doubledStar().tree(0), 0);
    }

    void p13CutLineInIt() {
        LimitTrees x = Nets.with(Nets.square(), y -> y.cut(4, true));
        due.is("with the cut line", x.tree(21), 0);
        due.is("the cut line alone", x.tree(16), 0);
        due.is("without it", x.tree(7), 1);
    }

    void p13LineNotThere() {
        LimitTrees x = Nets.square();
        due.is("line 5 alone", x.tree(32), NONE);
        due.is("a tree, and line 5", x.tree(7 + 32), NONE);
        due.is("a tree, and line 31", x.tree(7 | Integer.MIN_VALUE), NONE);
        due.is("a tree, and line 14", x.tree(7 + 16384), NONE);
    }

    void p13LineNotThereThoughThereIsNone() {
        LimitTrees x = new LimitTrees();
        due.is("tree(0)", x.tree(0), 0);
        due.is("tree(1)", x.tree(1), NONE);
    }

    void p13LimitsAreNotAsked() {
        due.is("a tree that breaks all five", brokenInAll().tree(1), 1);
    }

    private static LimitTrees brokenInAll() {
        return Nets.with(Nets.row(2), x -> {
            x.degree(1, 0);
            x.depth(0);
            x.load(0);
            x.reds(0, 0);
            x.way(998);
        });
    }

    void p14AllFive() {
        due.is("breaks(1)", brokenInAll().breaks(1), 31);
    }

    void p14NoneJustKept() {
        LimitTrees x = Nets.with(Nets.row(2), y -> {
            y.degree(0, 1);
            y.degree(1, 1);
            y.depth(1);
            y.load(1);
            y.reds(1, 1);
            y.way(999);
        });
        due.is("breaks(1)", x.breaks(1), 0);
    }

    void p14EachAlone() {
        LimitTrees x = Nets.eachLimitAlone();
        row("breaks", x.breaks(23), 1, x.breaks(15), 2, x.breaks(53), 4, x.breaks(57), 8, x.breaks(58), 16);
    }

    void p14NoTree() {
        Supplier<LimitTrees> net = Nets::square;
        for (int no : new int[] {0, 3, 15, 19, 31}) {
            due.is("breaks(" + no + ")", net.get().breaks(no), NONE);
            refused.changesNothing("breaks(" + no + ")", net, x -> x.breaks(no));
        }
    }

    void p14LineNotThere() {
        row("breaks", Nets.square().breaks(39), NONE, Nets.square().breaks(7 + 16384), NONE,
            Nets.square().breaks(7 | Integer.MIN_VALUE), NONE, Nets.square().breaks(~7), NONE);
    }

    void p14CutLineInIt() {
        due.is("breaks(21)", Nets.with(Nets.square(), x -> x.cut(4, true)).breaks(21), NONE);
    }

    void p15NoTree() {
        Supplier<LimitTrees> net = Nets::square;
        for (int what = 0; what <= 5; what++) {
            for (int no : new int[] {0, 3, 15, 19, 31, 39, 7 | Integer.MIN_VALUE}) {
                due.is("measure(" + no + ", " + what + ")", net.get().measure(no, what), NONE);
            }
            due.is("with a cut line, " + what, Nets.with(Nets.square(), x -> x.cut(4, true)).measure(21, what), NONE);
        }
        refused.changesNothing("measure(19, 0)", net, x -> x.measure(19, 0));
    }

    void p15TheLeast() {
        LimitTrees x = new LimitTrees();
        x.line(0, 1, 0, 0);
        x.demand(1, 0);
        int[] want = {0, 1, 1, 0, 0, 0};
        for (int what = 0; what <= 5; what++) due.is("measure(1, " + what + ")", x.measure(1, what), want[what]);
    }

    void p15TheGreatest() {
        LimitTrees x = Nets.row(8);
        for (int v = 0; v < 8; v++) x.demand(v, 99);
        int[] want = {6993, 2, 7, 693, 7, 6993};
        for (int what = 0; what <= 5; what++) due.is("row: measure(127, " + what + ")", x.measure(127, what), want[what]);
        LimitTrees y = Nets.doubledStar();
        for (int v = 0; v < 8; v++) y.demand(v, 99);
        int[] star = {6993, 7, 1, 99, 7, 999};
        for (int what = 0; what <= 5; what++) due.is("star: measure(16256, " + what + ")", y.measure(16256, what), star[what]);
    }

    void p15MostLinesAtAnyPost() {
        for (int v = 0; v < 8; v++) {
            LimitTrees x = new LimitTrees();
            x.posts(8);
            for (int w = 0; w < 8; w++) x.line(v, w, 1, 0);
            due.is("all at post " + v, x.measure(127, 1), 7);
        }
    }

    void p15OfATreeThatIsNotGood() {
        LimitTrees x = Nets.with(Nets.square(), y -> y.depth(0));
        row("measures", x.measure(7, 0), 4, x.measure(7, 1), 2, x.measure(7, 2), 3, x.measure(7, 3), 3, x.measure(7, 4), 1,
            x.measure(7, 5), 4);
    }

    void p16JustOne() {
        LimitTrees x = Nets.with(Nets.square(), y -> y.depth(1));
        row("one", x.many(), 1, x.good(0), 25, x.good(1), NONE, x.ranked(0), 25, x.ranked(1), NONE);
    }

    void p16LastOf512Calls() {
        LimitTrees x = Nets.doubledRow();
        for (int calls = 15; calls < 511; calls += 2) {
            x.price(calls % 14, calls);
            x.many();
        }
        due.is("the 512th", x.many(), 128);
    }

    void p17LeastBitsFirst() {
        LimitTrees x = Nets.square();
        int[] trees = {7, 11, 13, 14, 21, 22, 25, 26};
        for (int i = 0; i < trees.length; i++) due.is("good(" + i + ")", x.good(i), trees[i]);
    }

    void p17IndexThatWasThere() {
        LimitTrees x = Nets.square();
        due.is("good(7)", x.good(7), 26);
        x.cut(4, true);
        row("after a cut", x.good(3), 14, x.good(4), NONE, x.good(7), NONE);
        x.depth(0);
        row("none is good", x.good(0), NONE, x.good(7), NONE);
    }

    void p18LikePricesByBits() {
        LimitTrees x = Nets.square();
        int[] trees = {7, 21, 22, 13, 11, 14, 25, 26};
        for (int i = 0; i < trees.length; i++) due.is("ranked(" + i + ")", x.ranked(i), trees[i]);
    }

    void p18AllPricesAlike() {
        LimitTrees x = Nets.doubledStar();
        for (int i = 0; i < 128; i++) due.is("ranked(" + i + ")", x.ranked(i), x.good(i));
    }

    void p18IndexThatWasThere() {
        LimitTrees x = Nets.square();
        due.is("ranked(7)", x.ranked(7), 26);
        x.cut(4, true);
        row("after a cut", x.ranked(0), 7, x.ranked(3), 14, x.ranked(4), NONE, x.ranked(7), NONE);
        x.depth(0);
        row("none is good", x.ranked(0), NONE, x.ranked(7), NONE);
    }

    /** Lines 0 to 6 at nothing, 7 to 13 at 999: so many dear lines, so many times 999. */
    void p18FromNothingToTheGreatest() {
        LimitTrees x = Nets.doubledStar();
        for (int e = 0; e < 7; e++) x.price(e, 0);
        row("the first and the last", x.ranked(0), 127, x.ranked(1), 127 - 1 + 128, x.ranked(126), 16256 - 128 + 1,
            x.ranked(127), 16256);
        int before = 0;
        for (int i = 0; i < 128; i++) {
            int price = 999 * Integer.bitCount(x.ranked(i) >> 7);
            due.is("ranked(" + i + ") comes late enough", price >= before, true);
            before = price;
        }
        due.is("the greatest", before, 6993);
    }

    void p18FarApart() {
        LimitTrees x = Nets.farApart();
        row("ranked", x.ranked(0), 5, x.ranked(1), 10, x.ranked(2), NONE);
    }

    void p19NoGoodTree() {
        Supplier<LimitTrees> net = () -> Nets.with(Nets.square(), x -> x.depth(0));
        for (int e = 0; e < 5; e++) due.is("slack(" + e + ")", net.get().slack(e), NONE);
        refused.changesNothing("slack(0)", net, x -> x.slack(0));
    }

    void p19NoneWithoutIt() {
        for (int e = 0; e < 7; e++) due.is("a line of the only tree, " + e, Nets.row(8).slack(e), NONE);
        LimitTrees x = Nets.with(Nets.square(), y -> y.depth(1));
        row("only 25 is good", x.slack(0), NONE, x.slack(3), NONE, x.slack(4), NONE);
    }

    void p19NoneWithIt() {
        LimitTrees x = Nets.with(Nets.square(), y -> y.depth(1));
        row("only 25 is good", x.slack(1), NONE, x.slack(2), NONE);
    }

    void p19LineOfAllTrees() {
        LimitTrees x = Nets.with(Nets.triangle(), y -> {
            y.cut(1, true);
            y.line(0, 1, 2, 0);
        });
        row("line 2 is in all trees, lines 0 and 3 are alike", x.slack(2), NONE, x.slack(0), 3, x.slack(3), 3);
    }

    void p19Cut() {
        Supplier<LimitTrees> inBest = () -> Nets.with(Nets.square(), x -> x.cut(0, true));
        due.is("it was in the best", inBest.get().slack(0), NONE);
        due.is("it was not", Nets.with(Nets.square(), x -> x.cut(3, true)).slack(3), NONE);
        refused.changesNothing("slack(0)", inBest, x -> x.slack(0));
    }

    void p19Nothing() {
        LimitTrees x = Nets.doubledStar();
        for (int e = 0; e < 14; e++) due.is("slack(" + e + ")", x.slack(e), 0);
    }

    void p19TheGreatest() {
        LimitTrees x = Nets.farApart();
        for (int e = 0; e < 4; e++) due.is("slack(" + e + ")", x.slack(e), 1998);
    }

    void p20ThereIsAGoodOne() {
        due.is("eight", Nets.square().bar(), NONE);
        Supplier<LimitTrees> one = () -> Nets.with(Nets.square(), x -> x.depth(1));
        due.is("just one", one.get().bar(), NONE);
        refused.changesNothing("bar()", one, LimitTrees::bar);
    }

    void p20EachAlone() {
        row("bars",
            Nets.with(Nets.square(), x -> x.degree(3, 0)).bar(), 1,
            Nets.with(Nets.square(), x -> x.depth(0)).bar(), 2,
            Nets.with(Nets.square(), x -> x.load(0)).bar(), 4,
            Nets.with(Nets.square(), x -> x.reds(3, 14)).bar(), 8,
            Nets.with(Nets.square(), x -> x.way(2)).bar(), 16);
    }

    void p20FewestBeforeLeast() {
        LimitTrees x = Nets.with(Nets.triangle(), y -> {
            y.degree(0, 1);
            y.depth(1);
        });
        due.is("degrees and depth", x.bar(), 3);
        x.way(4);
        due.is("way alone is fewer", x.bar(), 16);
    }

    void p20LeastOfLikeOnes() {
        LimitTrees x = brokenInAll();
        due.is("each alone would do", x.bar(), 1);
        x.degree(1, 14);
        due.is("without degrees", x.bar(), 2);
        x.depth(7);
        due.is("without depth", x.bar(), 4);
        x.load(9999);
        due.is("without load", x.bar(), 8);
        x.reds(0, 14);
        due.is("without reds", x.bar(), 16);
        x.way(9999);
        due.is("without any", x.bar(), NONE);
    }

    void p20AllFiveAreNeeded() {
        LimitTrees x = Nets.eachLimitAlone();
        due.is("bar()", x.bar(), 31);
        due.is("without degrees", Nets.with(Nets.eachLimitAlone(), y -> y.degree(0, 14)).good(0), 23);
        due.is("without depth", Nets.with(Nets.eachLimitAlone(), y -> y.depth(7)).good(0), 15);
        due.is("without load", Nets.with(Nets.eachLimitAlone(), y -> y.load(9999)).good(0), 53);
        due.is("without reds", Nets.with(Nets.eachLimitAlone(), y -> y.reds(0, 14)).good(0), 57);
        due.is("without way", Nets.with(Nets.eachLimitAlone(), y -> y.way(9999)).good(0), 58);
    }

    void p20NoTreeThoughLimitsBarToo() {
        LimitTrees x = Nets.postAlone();
        x.depth(0);
        x.way(0);
        due.is("bar()", x.bar(), 0);
    }

    void p21JustOne() {
        LimitTrees x = Nets.square();
        row("front", x.front(0, 0), 21, x.front(0, 1), 4, x.front(0, 2), 3, x.front(1, 0), NONE, x.front(1, 1), NONE,
            x.front(1, 2), NONE);
    }

    void p21AlikeInBoth() {
        LimitTrees x = Nets.doubledStar();
        row("the first by bits alone", x.front(0, 0), 127, x.front(0, 1), 6993, x.front(0, 2), 999, x.front(1, 0), NONE);
    }

    void p21LikePriceLesserWay() {
        LimitTrees x = Nets.with(Nets.triangle(), y -> {
            y.price(0, 4);
            y.price(1, 4);
        });
        row("8 in all each, and 8, 4, 8", x.front(0, 0), 5, x.front(0, 2), 4, x.front(1, 0), NONE);
    }

    void p21LikeWayLesserPrice() {
        LimitTrees x = Nets.with(Nets.star(3), y -> {
            y.price(0, 5);
            y.price(1, 9);
            y.line(0, 1, 4, 0);
        });
        row("14 and 13 in all, way 9 each", x.front(0, 0), 6, x.front(0, 1), 13, x.front(0, 2), 9, x.front(1, 0), NONE);
    }

    void p21EachPriceAnotherWay() {
        LimitTrees x = Nets.triangle();
        row("7 and 7, 9 and 5; not 8 and 8", x.front(0, 0), 6, x.front(1, 0), 5, x.front(2, 0), NONE);
        x.price(0, 6);
        row("7 and 7, 10 and 6", x.front(0, 2), 7, x.front(1, 2), 6, x.front(2, 2), NONE);
        x.price(0, 7);
        row("7 and 7 beats 11 and 7", x.front(0, 0), 6, x.front(1, 0), NONE);
    }

    /** A row at 1 a line, and lines from post 0 at 3 to posts 2 to 7: with none of these, with one, with four. */
    void p21FrontOfThree() {
        LimitTrees x = new LimitTrees();
        x.posts(8);
        for (int v = 1; v < 8; v++) x.line(v - 1, v, 1, 0);
        for (int v = 2; v < 8; v++) x.line(0, v, 3, 0);
        row("the row alone", x.front(0, 0), 127, x.front(0, 1), 7, x.front(0, 2), 7);
        row("line 11 for line 4", x.front(1, 0), 127 - 16 + 2048, x.front(1, 1), 9, x.front(1, 2), 4);
        row("lines 9 to 12 for 3 to 6", x.front(2, 0), 7 + (15 << 9), x.front(2, 1), 15, x.front(2, 2), 3);
        row("no fourth", x.front(3, 0), NONE, x.front(3, 1), NONE, x.front(3, 2), NONE);
    }

    void p21LimitsAreAsked() {
        LimitTrees x = Nets.with(Nets.triangle(), y -> y.depth(1));
        row("only 5 is good", x.front(0, 0), 5, x.front(0, 1), 9, x.front(0, 2), 5, x.front(1, 0), NONE);
    }

    void p21RightIndexWrongWhat() {
        row("front", Nets.triangle().front(0, 3), NONE, Nets.triangle().front(1, -1), NONE,
            Nets.triangle().front(2, 0), NONE, Nets.triangle().front(-1, 3), NONE,
            Nets.triangle().front(Integer.MAX_VALUE, Integer.MIN_VALUE), NONE);
    }

    void p22TheyAreOne() {
        LimitTrees x = Nets.square();
        for (int i = 0; i < 8; i++) due.is("swaps from good(" + i + ") to itself", x.swaps(x.good(i), x.good(i)), 0);
    }

    void p22TheFirstIsNotGood() {
        Supplier<LimitTrees> net = () -> Nets.with(Nets.square(), x -> x.depth(1));
        due.is("swaps(7, 25)", net.get().swaps(7, 25), NONE);
        refused.changesNothing("swaps(7, 25)", net, x -> x.swaps(7, 25));
    }

    void p22TheSecondIsNotGood() {
        Supplier<LimitTrees> net = () -> Nets.with(Nets.square(), x -> x.depth(1));
        due.is("swaps(25, 7)", net.get().swaps(25, 7), NONE);
        refused.changesNothing("swaps(25, 7)", net, x -> x.swaps(25, 7));
    }

    void p22TheyAreOneThatIsNotGood() {
        LimitTrees x = Nets.with(Nets.square(), y -> y.depth(1));
        row("swaps", x.swaps(7, 7), NONE, x.swaps(19, 19), NONE, x.swaps(0, 0), NONE, x.swaps(32, 32), NONE,
            x.swaps(-1, -1), NONE, x.swaps(25, 25), 0);
    }

    void p22OneIsNoTree() {
        LimitTrees x = Nets.square();
        for (int no : new int[] {0, 3, 15, 19, 31, 39, 7 + 16384, 7 | Integer.MIN_VALUE}) {
            due.is("swaps(7, " + no + ")", x.swaps(7, no), NONE);
            due.is("swaps(" + no + ", 7)", x.swaps(no, 7), NONE);
        }
    }

    void p22OneHasACutLine() {
        LimitTrees x = Nets.with(Nets.square(), y -> y.cut(4, true));
        row("swaps", x.swaps(7, 21), NONE, x.swaps(21, 7), NONE, x.swaps(21, 21), NONE, x.swaps(7, 11), 1);
    }

    void p22NoWay() {
        Supplier<LimitTrees> net = Nets::farApart;
        row("swaps", net.get().swaps(5, 10), NONE, net.get().swaps(10, 5), NONE, net.get().swaps(5, 5), 0);
        refused.changesNothing("swaps(5, 10)", net, x -> x.swaps(5, 10));
    }

    void p22WayOnceTheLimitIsGone() {
        LimitTrees x = Nets.farApart();
        due.is("no way", x.swaps(5, 10), NONE);
        x.reds(0, 2);
        due.is("a way", x.swaps(5, 10), 2);
        x.reds(1, 1);
        due.is("no way again", x.swaps(5, 10), NONE);
    }

    void p22EveryLineOfFourteen() {
        LimitTrees x = Nets.doubledRow();
        row("swaps", x.swaps(127, 16256), 7, x.swaps(16256, 127), 7, x.swaps(127, 254), 1);
    }

    void p23TheyAreOne() {
        LimitTrees x = Nets.square();
        steps(x, 7);
        steps(x, 26);
    }

    void p23LeastRow() {
        LimitTrees x = Nets.square();
        steps(x, 7, 11, 26);
        steps(x, 26, 11, 7);
    }

    void p23EveryLineOfFourteen() {
        int[] trees = new int[8];
        int[] back = new int[8];
        for (int i = 0; i < 8; i++) {
            trees[i] = 127 << i;
            back[7 - i] = 127 << i;
        }
        steps(Nets.doubledRow(), trees);
        steps(Nets.doubledRow(), back);
    }

    void p23NoWay() {
        Supplier<LimitTrees> net = Nets::farApart;
        noWay(net.get(), 5, 10);
        noWay(net.get(), 10, 5);
        refused.changesNothing("step(5, 10, 0)", net, x -> x.step(5, 10, 0));
    }

    void p23OneIsNotGood() {
        Supplier<LimitTrees> net = () -> Nets.with(Nets.square(), x -> x.depth(1));
        noWay(net.get(), 7, 25);
        noWay(net.get(), 25, 7);
        noWay(net.get(), 7, 7);
        refused.changesNothing("step(7, 7, 0)", net, x -> x.step(7, 7, 0));
    }

    void p23OneIsNoTree() {
        LimitTrees x = Nets.square();
        for (int no : new int[] {0, 19, 31, 39, 7 + 16384, 7 | Integer.MIN_VALUE}) {
            noWay(x, 7, no);
            noWay(x, no, 7);
            noWay(x, no, no);
        }
    }

    void p23OneHasACutLine() {
        LimitTrees x = Nets.with(Nets.square(), y -> y.cut(4, true));
        noWay(x, 7, 21);
        noWay(x, 21, 7);
        noWay(x, 21, 21);
    }

    void p23AboutWhatIsNotGood() {
        LimitTrees x = Nets.with(Nets.twice(), y -> {
            y.way(12);
            y.reds(1, 14);
        });
        steps(x, 9, 12, 20, 18);
        steps(x, 18, 20, 12, 9);
    }

    void p24CutAndWhole() {
        LimitTrees x = Nets.square();
        due.is("whole", x.look(4, 4), 0);
        x.cut(4, true);
        row("cut", x.look(4, 0), 0, x.look(4, 1), 2, x.look(4, 2), 2, x.look(4, 3), 0, x.look(4, 4), 1);
        x.cut(4, false);
        due.is("whole again", x.look(4, 4), 0);
    }

    void p24FirstAndLastOfFourteen() {
        LimitTrees x = Nets.doubledRow();
        row("the first", x.look(0, 0), 0, x.look(0, 1), 1, x.look(0, 2), 999, x.look(0, 3), 1, x.look(0, 4), 0);
        row("the last", x.look(13, 0), 7, x.look(13, 1), 6, x.look(13, 2), 998, x.look(13, 3), 0, x.look(13, 4), 0);
        x.cut(13, true);
        row("the last, cut", x.look(13, 4), 1, x.look(12, 4), 0, x.look(0, 4), 0);
    }

    void p24LineOfAFormerNet() {
        LimitTrees x = Nets.doubledRow();
        x.posts(8);
        for (int what = 0; what <= 4; what++) due.is("look(0, " + what + ")", x.look(0, what), NONE);
        x.line(0, 1, 1, 0);
        for (int what = 0; what <= 4; what++) due.is("look(1, " + what + ")", x.look(1, what), NONE);
    }

    void p25EachOne() {
        LimitTrees x = Nets.with(Nets.square(), y -> {
            y.cut(3, true);
            y.root(3);
            y.depth(0);
            y.load(0);
            y.reds(14, 14);
            y.way(0);
        });
        int[] want = {4, 5, 4, 3, 0, 0, 14, 14, 0, 3};
        for (int what = 0; what <= 9; what++) due.is("count(" + what + ")", x.count(what), want[what]);
    }

    void p25TreesInAllWhateverTheLimits() {
        due.is("none is good", brokenInAll().count(9), 1);
        due.is("of the square", Nets.with(Nets.square(), x -> x.depth(0)).count(9), 8);
        due.is("of the full net", Nets.with(Nets.doubledRow(), x -> x.reds(14, 14)).count(9), 128);
    }

    void p25TreesOfWholeLinesAlone() {
        due.is("one is cut", Nets.with(Nets.square(), x -> x.cut(4, true)).count(9), 4);
        due.is("one of fourteen is cut", Nets.with(Nets.doubledRow(), x -> x.cut(13, true)).count(9), 64);
    }

    void p25DegreesAndDemandsOfEachPost() {
        LimitTrees x = Nets.row(8);
        for (int v = 0; v < 8; v++) {
            x.degree(v, 14 - v);
            x.demand(v, 99 - v);
        }
        for (int v = 0; v < 8; v++) {
            due.is("count(" + (20 + v) + ")", x.count(20 + v), 14 - v);
            due.is("count(" + (30 + v) + ")", x.count(30 + v), 99 - v);
        }
        row("no ninth post", x.count(28), NONE, x.count(38), NONE, x.count(19), NONE, x.count(29), NONE);
    }

    void p25PostsOfAFormerNet() {
        LimitTrees x = Nets.row(8);
        x.posts(3);
        row("post 2", x.count(22), 14, x.count(32), 1);
        for (int v = 3; v < 10; v++) row("post " + v, x.count(20 + v), NONE, x.count(30 + v), NONE);
    }
}
