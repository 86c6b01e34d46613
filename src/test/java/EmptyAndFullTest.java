/** Promises 13 to 25 on nets that are empty in one of five ways, and on nets that are full. */
public final class EmptyAndFullTest {
    private static final int NONE = -1;

    private final Due due = new Due("empty and full");

    public static void main(String[] args) throws Exception {
        EmptyAndFullTest test = new EmptyAndFullTest();
        Cases.run(test, test.due, 13, 14, 15, 16, 17, 18, 19, 20, 21, 22, 23, 24, 25);
    }

    private interface Question {
        int answer(LimitTrees x);
    }

    /** A new object; eight posts without lines; the square with all lines cut, with no good tree; a post alone. */
    private void empties(String call, Question question, int anew, int noLines, int allCut, int noGood, int noTree) {
        due.is(call + " of a new object", question.answer(new LimitTrees()), anew);
        due.is(call + " without lines", question.answer(Nets.with(new LimitTrees(), x -> x.posts(8))), noLines);
        due.is(call + " of a net emptied", question.answer(Nets.with(Nets.doubledRow(), x -> x.posts(8))), noLines);
        due.is(call + " with all lines cut", question.answer(Nets.with(Nets.square(), EmptyAndFullTest::cutAll)), allCut);
        due.is(call + " with no good tree", question.answer(Nets.with(Nets.square(), x -> x.depth(0))), noGood);
        due.is(call + " with no tree at all", question.answer(Nets.postAlone()), noTree);
    }

    private static void cutAll(LimitTrees x) {
        x.many();
        for (int e = 0; e < x.count(1); e++) x.cut(e, true);
    }

    private void full(String call, int got, int want) {
        due.is(call + " of a full net", got, want);
    }

    /** All limits as tight as the doubled row's trees allow, all demands as great as can be. */
    private static LimitTrees fullAndTight() {
        LimitTrees x = Nets.doubledRow();
        for (int v = 0; v < 8; v++) {
            x.demand(v, 99);
            x.degree(v, 2);
        }
        x.depth(7);
        x.load(693);
        x.reds(0, 7);
        x.way(6993);
        return x;
    }

    void p13Empty() {
        empties("tree(0)", x -> x.tree(0), 0, 0, 0, 0, 0);
        empties("tree(1)", x -> x.tree(1), NONE, NONE, 0, 0, 0);
        empties("tree(7)", x -> x.tree(7), NONE, NONE, 0, 1, 0);
        empties("tree(8)", x -> x.tree(8), NONE, NONE, 0, 0, NONE);
        empties("tree(-1)", x -> x.tree(-1), NONE, NONE, NONE, NONE, NONE);
    }

    void p13Full() {
        LimitTrees x = fullAndTight();
        full("tree(127)", x.tree(127), 1);
        full("tree(16256)", x.tree(16256), 1);
        full("tree(16383)", x.tree(16383), 0);
        full("tree(16384)", x.tree(16384), NONE);
    }

    void p14Empty() {
        empties("breaks(0)", x -> x.breaks(0), NONE, NONE, NONE, NONE, NONE);
        empties("breaks(7)", x -> x.breaks(7), NONE, NONE, NONE, 2, NONE);
    }

    void p14Full() {
        LimitTrees x = fullAndTight();
        full("breaks(127)", x.breaks(127), 0);
        full("breaks(16256)", x.breaks(16256), 0);
        x.degree(3, 1);
        x.depth(6);
        x.load(692);
        x.reds(0, 6);
        x.way(6992);
        full("breaks(127)", x.breaks(127), 31);
        full("breaks(16256)", x.breaks(16256), 7);
    }

    void p15Empty() {
        for (int k = 0; k <= 5; k++) {
            int what = k;
            int[] square = {4, 2, 3, 3, 1, 4};
            empties("measure(0, " + what + ")", x -> x.measure(0, what), NONE, NONE, NONE, NONE, NONE);
            empties("measure(7, " + what + ")", x -> x.measure(7, what), NONE, NONE, NONE, square[what], NONE);
        }
    }

    void p15Full() {
        int[] first = {6993, 2, 7, 693, 7, 6993};
        int[] last = {6986, 2, 7, 693, 0, 6986};
        for (int what = 0; what <= 5; what++) {
            full("measure(127, " + what + ")", fullAndTight().measure(127, what), first[what]);
            full("measure(16256, " + what + ")", fullAndTight().measure(16256, what), last[what]);
        }
    }

    void p16Empty() {
        empties("many()", LimitTrees::many, 0, 0, 0, 0, 0);
    }

    void p16Full() {
        full("many()", fullAndTight().many(), 128);
        full("many() within way 6992", Nets.with(fullAndTight(), x -> x.way(6992)).many(), 127);
        full("many() of 6 red lines at most", Nets.with(fullAndTight(), x -> x.reds(0, 6)).many(), 127);
    }

    void p17Empty() {
        empties("good(0)", x -> x.good(0), NONE, NONE, NONE, NONE, NONE);
        empties("good(-1)", x -> x.good(-1), NONE, NONE, NONE, NONE, NONE);
        empties("good(1)", x -> x.good(1), NONE, NONE, NONE, NONE, NONE);
    }

    void p17Full() {
        LimitTrees x = fullAndTight();
        full("good(0)", x.good(0), 127);
        full("good(1)", x.good(1), 127 - 1 + 128);
        full("good(127)", x.good(127), 16256);
        full("good(128)", x.good(128), NONE);
    }

    void p18Empty() {
        empties("ranked(0)", x -> x.ranked(0), NONE, NONE, NONE, NONE, NONE);
        empties("ranked(-1)", x -> x.ranked(-1), NONE, NONE, NONE, NONE, NONE);
        empties("ranked(1)", x -> x.ranked(1), NONE, NONE, NONE, NONE, NONE);
    }

    void p18Full() {
        LimitTrees x = fullAndTight();
        full("ranked(0)", x.ranked(0), 16256);
        full("ranked(1), the least with one dearer line", x.ranked(1), 16256 - 8192 + 64);
        full("ranked(126), the greatest with one cheaper line", x.ranked(126), 127 - 64 + 8192);
        full("ranked(127)", x.ranked(127), 127);
        full("ranked(128)", x.ranked(128), NONE);
    }

    void p19Empty() {
        empties("slack(0)", x -> x.slack(0), NONE, NONE, NONE, NONE, NONE);
        empties("slack(4)", x -> x.slack(4), NONE, NONE, NONE, NONE, NONE);
    }

    void p19Full() {
        for (int e = 0; e < 14; e++) full("slack(" + e + ")", fullAndTight().slack(e), 1);
        full("slack(14)", fullAndTight().slack(14), NONE);
    }

    void p20Empty() {
        empties("bar()", LimitTrees::bar, 0, 0, 0, 2, 0);
    }

    void p20Full() {
        full("bar()", fullAndTight().bar(), NONE);
        full("bar() of way 6985", Nets.with(fullAndTight(), x -> x.way(6985)).bar(), 16);
        full("bar() of reds and way", Nets.with(fullAndTight(), x -> {
            x.way(6986);
            x.reds(1, 7);
        }).bar(), 24);
    }

    void p21Empty() {
        for (int k = 0; k <= 2; k++) {
            int what = k;
            empties("front(0, " + what + ")", x -> x.front(0, what), NONE, NONE, NONE, NONE, NONE);
        }
    }

    /** On a row from the root the way is the price, so that the cheapest tree stands alone. */
    void p21Full() {
        LimitTrees x = fullAndTight();
        full("front(0, 0)", x.front(0, 0), 16256);
        full("front(0, 1)", x.front(0, 1), 6986);
        full("front(0, 2)", x.front(0, 2), 6986);
        full("front(1, 0)", x.front(1, 0), NONE);
    }

    void p22Empty() {
        empties("swaps(0, 0)", x -> x.swaps(0, 0), NONE, NONE, NONE, NONE, NONE);
        empties("swaps(7, 7)", x -> x.swaps(7, 7), NONE, NONE, NONE, NONE, NONE);
        empties("swaps(7, 26)", x -> x.swaps(7, 26), NONE, NONE, NONE, NONE, NONE);
    }

    void p22Full() {
        full("swaps(127, 16256)", fullAndTight().swaps(127, 16256), 7);
        full("swaps(16256, 127)", fullAndTight().swaps(16256, 127), 7);
        full("swaps(127, 16383)", fullAndTight().swaps(127, 16383), NONE);
    }

    void p23Empty() {
        empties("step(0, 0, 0)", x -> x.step(0, 0, 0), NONE, NONE, NONE, NONE, NONE);
        empties("step(7, 7, 0)", x -> x.step(7, 7, 0), NONE, NONE, NONE, NONE, NONE);
        empties("step(7, 26, 1)", x -> x.step(7, 26, 1), NONE, NONE, NONE, NONE, NONE);
    }

    void p23Full() {
        for (int i = 0; i <= 7; i++) full("step(127, 16256, " + i + ")", fullAndTight().step(127, 16256, i), 127 << i);
        full("step(127, 16256, 8)", fullAndTight().step(127, 16256, 8), NONE);
    }

    void p24Empty() {
        empties("look(0, 0)", x -> x.look(0, 0), NONE, NONE, 0, 0, 0);
        empties("look(0, 1)", x -> x.look(0, 1), NONE, NONE, 1, 1, 1);
        empties("look(0, 2)", x -> x.look(0, 2), NONE, NONE, 1, 1, 5);
        empties("look(1, 3)", x -> x.look(1, 3), NONE, NONE, 1, 1, 1);
        empties("look(0, 4)", x -> x.look(0, 4), NONE, NONE, 1, 0, 0);
    }

    void p24Full() {
        for (int e = 0; e < 7; e++) {
            full("look(" + e + ", 2)", fullAndTight().look(e, 2), 999);
            full("look(" + (e + 7) + ", 2)", fullAndTight().look(e + 7, 2), 998);
        }
        full("look(14, 2)", fullAndTight().look(14, 2), NONE);
    }

    void p25Empty() {
        int[][] told = {{2, 0, 0, 0, 7}, {8, 0, 0, 0, 7}, {4, 5, 0, 0, 7}, {4, 5, 5, 0, 0}, {4, 3, 3, 0, 7}};
        for (int k = 0; k <= 4; k++) {
            int what = k;
            empties("count(" + what + ")", x -> x.count(what), told[0][what], told[1][what], told[2][what], told[3][what],
                told[4][what]);
        }
        empties("count(9)", x -> x.count(9), 0, 0, 0, 8, 0);
    }

    void p25Full() {
        int[] told = {8, 14, 14, 0, 7, 693, 0, 7, 6993, 128};
        for (int what = 0; what <= 9; what++) full("count(" + what + ")", fullAndTight().count(what), told[what]);
        full("count(27)", fullAndTight().count(27), 2);
        full("count(37)", fullAndTight().count(37), 99);
    }
}
