import java.util.Arrays;
import java.util.LinkedHashSet;
import java.util.Set;
import java.util.function.Supplier;

/**
 * Every number that a call takes, at the ends of what is allowed: the least and the most are taken; one below, one
 * above, the least int, the greatest int, and numbers that a shift or a cast would wrap into what is allowed are
 * refused, and leave every later answer as it was.
 */
public final class EdgesTest {
    private static final int NONE = -1;
    private static final int TRUE = 1;
    private static final int FALSE = 0;
    private static final int[] ALL_WRONG = {Integer.MIN_VALUE, -1, 10_000, Integer.MAX_VALUE};

    private interface Call {
        int answer(LimitTrees x, int n);
    }

    private interface CallOfSome {
        int answer(LimitTrees x, int... n);
    }

    private interface Holds {
        boolean test(LimitTrees x, int n);
    }

    /** A number of a call: from the least to the most it may be, and what is answered at both ends, and beyond. */
    private record Edge(Supplier<LimitTrees> net, int least, int most, int atLeast, int atMost, int refused) { }

    private static final Supplier<LimitTrees> NEW = LimitTrees::new;
    private static final Supplier<LimitTrees> ONE_LINE = () -> Nets.row(2);
    private static final Supplier<LimitTrees> TRIANGLE = Nets::triangle;
    private static final Supplier<LimitTrees> SQUARE = Nets::square;
    private static final Supplier<LimitTrees> ONE_TREE = () -> Nets.row(8);
    private static final Supplier<LimitTrees> FULL = Nets::doubledRow;
    private static final Supplier<LimitTrees> ALL_CUT = () -> allCut(Nets.square());
    private static final Supplier<LimitTrees> FULL_ALL_CUT = () -> allCut(Nets.doubledRow());

    private final Due due = new Due("edges");
    private final Refused refused = new Refused(due);

    public static void main(String[] args) throws Exception {
        EdgesTest test = new EdgesTest();
        Cases.run(test, test.due, 2, 3, 4, 5, 6, 7, 8, 9, 10, 11, 12, 13, 14, 15, 17, 18, 19, 21, 22, 23, 24, 25);
    }

    private static LimitTrees allCut(LimitTrees x) {
        for (int e = 0; e < x.count(1); e++) x.cut(e, true);
        return x;
    }

    private static int truth(boolean answer) {
        return answer ? TRUE : FALSE;
    }

    private static Edge told(Supplier<LimitTrees> net, int least, int most) {
        return new Edge(net, least, most, TRUE, TRUE, FALSE);
    }

    private static Edge asked(Supplier<LimitTrees> net, int least, int most, int atLeast, int atMost) {
        return new Edge(net, least, most, atLeast, atMost, NONE);
    }

    private void tell(Edge edge, Call call, Holds holds) {
        takes("the least", edge, edge.least(), edge.atLeast(), call, holds);
        takes("the most", edge, edge.most(), edge.atMost(), call, holds);
        refuse(edge, call);
    }

    private void takes(String which, Edge edge, int n, int want, Call call, Holds holds) {
        LimitTrees x = edge.net().get();
        due.is(which + ", " + n + ",", call.answer(x, n), want);
        due.is(which + ", " + n + ", is held", holds.test(x, n), true);
    }

    private void ask(Edge edge, Call call) {
        due.is("the least, " + edge.least() + ",", call.answer(edge.net().get(), edge.least()), edge.atLeast());
        due.is("the most, " + edge.most() + ",", call.answer(edge.net().get(), edge.most()), edge.atMost());
        refuse(edge, call);
    }

    private void refuse(Edge edge, Call call) {
        for (int n : beyond(edge.least(), edge.most())) {
            due.is("of " + edge.least() + " to " + edge.most() + " none, " + n + ",",
                call.answer(edge.net().get(), n), edge.refused());
            refused.changesNothing("refused " + n, edge.net(), x -> call.answer(x, n));
        }
    }

    /** Every number of a call wrong at once, in each way. */
    private void refuseAllWrong(int numbers, int want, CallOfSome call) {
        int ways = (int) Math.pow(ALL_WRONG.length, numbers);
        for (int way = 0; way < ways; way++) {
            int[] n = new int[numbers];
            for (int i = 0, rest = way; i < numbers; i++, rest /= ALL_WRONG.length) n[i] = ALL_WRONG[rest % ALL_WRONG.length];
            due.is("of " + Arrays.toString(n), call.answer(Nets.square(), n), want);
            refused.changesNothing("refused " + Arrays.toString(n), SQUARE, x -> call.answer(x, n));
        }
    }

    private static Set<Integer> beyond(int least, int most) {
        Set<Integer> row = new LinkedHashSet<>();
        row.add(least - 1);
        row.add(most + 1);
        row.add(Integer.MIN_VALUE);
        row.add(Integer.MAX_VALUE);
        for (int n : new int[] {least, most}) {
            row.add(n - 32);
            row.add(n + 32);
            row.add(n + 256);
            row.add(n + 16384);
            row.add(n + 65536);
            row.add(n ^ Integer.MIN_VALUE);
            row.add(-n);
            row.add(~n);
        }
        row.removeIf(n -> n >= least && n <= most);
        return row;
    }

    void p02PostsNumber() {
        tell(told(SQUARE, 2, 8), (x, n) -> truth(x.posts(n)), (x, n) -> x.count(0) == n);
        tell(told(NEW, 2, 8), (x, n) -> truth(x.posts(n)), (x, n) -> x.count(0) == n);
    }

    void p03LineFirstPost() {
        for (int posts = 2; posts <= 8; posts++) {
            int n = posts;
            tell(asked(() -> Nets.row(n), 0, n - 1, n - 1, n - 1),
                (x, a) -> x.line(a, a == 0 ? 1 : 0, 7, 0), (x, a) -> x.look(n - 1, 0) == a);
        }
    }

    void p03LineSecondPost() {
        for (int posts = 2; posts <= 8; posts++) {
            int n = posts;
            tell(asked(() -> Nets.row(n), 0, n - 1, n - 1, n - 1),
                (x, b) -> x.line(b == 0 ? 1 : 0, b, 7, 0), (x, b) -> x.look(n - 1, 1) == b);
        }
    }

    void p03LinePrice() {
        tell(asked(SQUARE, 0, 999, 5, 5), (x, n) -> x.line(0, 1, n, 0), (x, n) -> x.look(5, 2) == n);
    }

    void p03LineColour() {
        tell(asked(SQUARE, 0, 1, 5, 5), (x, n) -> x.line(0, 1, 7, n), (x, n) -> x.look(5, 3) == n);
    }

    void p03LineAllWrong() {
        refuseAllWrong(4, NONE, (x, n) -> x.line(n[0], n[1], n[2], n[3]));
    }

    void p04CutLine() {
        Call call = (x, e) -> truth(x.cut(e, true));
        Holds holds = (x, e) -> x.look(e, 4) == 1;
        tell(told(ONE_LINE, 0, 0), call, holds);
        tell(told(SQUARE, 0, 4), call, holds);
        tell(told(FULL, 0, 13), call, holds);
        refuse(told(NEW, 0, -1), call);
    }

    void p04WholeLine() {
        Call call = (x, e) -> truth(x.cut(e, false));
        Holds holds = (x, e) -> x.look(e, 4) == 0;
        tell(told(ALL_CUT, 0, 4), call, holds);
        tell(told(FULL_ALL_CUT, 0, 13), call, holds);
        refuse(told(NEW, 0, -1), call);
    }

    void p05PriceLine() {
        Call call = (x, e) -> truth(x.price(e, 321));
        Holds holds = (x, e) -> x.look(e, 2) == 321;
        tell(told(ONE_LINE, 0, 0), call, holds);
        tell(told(SQUARE, 0, 4), call, holds);
        tell(told(FULL, 0, 13), call, holds);
        refuse(told(NEW, 0, -1), call);
    }

    void p05PriceNumber() {
        tell(told(SQUARE, 0, 999), (x, n) -> truth(x.price(1, n)), (x, n) -> x.look(1, 2) == n);
    }

    void p05PriceAllWrong() {
        refuseAllWrong(2, FALSE, (x, n) -> truth(x.price(n[0], n[1])));
    }

    void p06DegreePost() {
        for (int posts = 2; posts <= 8; posts++) {
            int n = posts;
            tell(told(() -> Nets.row(n), 0, n - 1), (x, v) -> truth(x.degree(v, 3)), (x, v) -> x.count(20 + v) == 3);
        }
    }

    void p06DegreeNumber() {
        tell(told(SQUARE, 0, 14), (x, n) -> truth(x.degree(3, n)), (x, n) -> x.count(23) == n);
    }

    void p06DegreeAllWrong() {
        refuseAllWrong(2, FALSE, (x, n) -> truth(x.degree(n[0], n[1])));
    }

    void p07DepthNumber() {
        tell(told(SQUARE, 0, 7), (x, n) -> truth(x.depth(n)), (x, n) -> x.count(4) == n);
    }

    void p08RootPost() {
        for (int posts = 2; posts <= 8; posts++) {
            int n = posts;
            tell(told(() -> Nets.row(n), 0, n - 1), (x, v) -> truth(x.root(v)), (x, v) -> x.count(3) == v);
        }
    }

    void p09LoadNumber() {
        tell(told(SQUARE, 0, 9999), (x, n) -> truth(x.load(n)), (x, n) -> x.count(5) == n);
    }

    void p10DemandPost() {
        for (int posts = 2; posts <= 8; posts++) {
            int n = posts;
            tell(told(() -> Nets.row(n), 0, n - 1), (x, v) -> truth(x.demand(v, 3)), (x, v) -> x.count(30 + v) == 3);
        }
    }

    void p10DemandNumber() {
        tell(told(SQUARE, 0, 99), (x, n) -> truth(x.demand(3, n)), (x, n) -> x.count(33) == n);
    }

    void p10DemandAllWrong() {
        refuseAllWrong(2, FALSE, (x, n) -> truth(x.demand(n[0], n[1])));
    }

    void p11RedsFirst() {
        tell(told(SQUARE, 0, 14), (x, n) -> truth(x.reds(n, 14)), (x, n) -> x.count(6) == n && x.count(7) == 14);
        tell(told(SQUARE, 0, 5), (x, n) -> truth(x.reds(n, 5)), (x, n) -> x.count(6) == n && x.count(7) == 5);
        tell(told(SQUARE, 0, 0), (x, n) -> truth(x.reds(n, 0)), (x, n) -> x.count(6) == n && x.count(7) == 0);
    }

    void p11RedsSecond() {
        tell(told(SQUARE, 0, 14), (x, n) -> truth(x.reds(0, n)), (x, n) -> x.count(6) == 0 && x.count(7) == n);
        tell(told(SQUARE, 5, 14), (x, n) -> truth(x.reds(5, n)), (x, n) -> x.count(6) == 5 && x.count(7) == n);
        tell(told(SQUARE, 14, 14), (x, n) -> truth(x.reds(14, n)), (x, n) -> x.count(6) == 14 && x.count(7) == n);
    }

    void p11RedsBoth() {
        tell(told(SQUARE, 0, 14), (x, n) -> truth(x.reds(n, n)), (x, n) -> x.count(6) == n && x.count(7) == n);
    }

    void p11RedsAllWrong() {
        refuseAllWrong(2, FALSE, (x, n) -> truth(x.reds(n[0], n[1])));
    }

    void p12WayNumber() {
        tell(told(SQUARE, 0, 9999), (x, n) -> truth(x.way(n)), (x, n) -> x.count(8) == n);
    }

    void p13TreeSet() {
        Call call = LimitTrees::tree;
        ask(asked(NEW, 0, 0, 0, 0), call);
        ask(asked(ONE_LINE, 0, 1, 0, 1), call);
        ask(asked(SQUARE, 0, 31, 0, 0), call);
        ask(asked(ALL_CUT, 0, 31, 0, 0), call);
        ask(asked(ONE_TREE, 0, 127, 0, 1), call);
        ask(asked(FULL, 0, 16383, 0, 0), call);
    }

    void p14BreaksSet() {
        Call call = LimitTrees::breaks;
        refuse(asked(NEW, 0, -1, NONE, NONE), call);
        refuse(asked(ALL_CUT, 0, -1, NONE, NONE), call);
        ask(asked(ONE_LINE, 1, 1, 0, 0), call);
        ask(asked(ONE_TREE, 127, 127, 0, 0), call);
        ask(asked(FULL, 127, 16256, 0, 0), call);
    }

    void p15MeasureSet() {
        Call call = (x, set) -> x.measure(set, 0);
        refuse(asked(NEW, 0, -1, NONE, NONE), call);
        refuse(asked(ALL_CUT, 0, -1, NONE, NONE), call);
        ask(asked(ONE_LINE, 1, 1, 999, 999), call);
        ask(asked(ONE_TREE, 127, 127, 6993, 6993), call);
        ask(asked(FULL, 127, 16256, 6993, 6986), call);
    }

    void p15MeasureWhat() {
        ask(asked(ONE_TREE, 0, 5, 6993, 6993), (x, what) -> x.measure(127, what));
        refuse(asked(SQUARE, 0, 5, NONE, NONE), (x, what) -> x.measure(19, what));
    }

    void p15MeasureAllWrong() {
        refuseAllWrong(2, NONE, (x, n) -> x.measure(n[0], n[1]));
    }

    void p17GoodIndex() {
        Call call = LimitTrees::good;
        refuse(asked(NEW, 0, -1, NONE, NONE), call);
        ask(asked(ONE_TREE, 0, 0, 127, 127), call);
        ask(asked(SQUARE, 0, 7, 7, 26), call);
        ask(asked(FULL, 0, 127, 127, 16256), call);
    }

    void p18RankedIndex() {
        Call call = LimitTrees::ranked;
        refuse(asked(NEW, 0, -1, NONE, NONE), call);
        ask(asked(ONE_TREE, 0, 0, 127, 127), call);
        ask(asked(SQUARE, 0, 7, 7, 26), call);
        ask(asked(FULL, 0, 127, 16256, 127), call);
    }

    void p19SlackLine() {
        Call call = LimitTrees::slack;
        refuse(asked(NEW, 0, -1, NONE, NONE), call);
        refuse(asked(ALL_CUT, 0, -1, NONE, NONE), call);
        ask(asked(SQUARE, 0, 4, 1, 0), call);
        ask(asked(FULL, 0, 13, 1, 1), call);
    }

    void p21FrontIndex() {
        refuse(asked(NEW, 0, -1, NONE, NONE), (x, i) -> x.front(i, 0));
        ask(asked(TRIANGLE, 0, 1, 6, 5), (x, i) -> x.front(i, 0));
        ask(asked(TRIANGLE, 0, 1, 7, 9), (x, i) -> x.front(i, 1));
        ask(asked(TRIANGLE, 0, 1, 7, 5), (x, i) -> x.front(i, 2));
        ask(asked(FULL, 0, 0, 16256, 16256), (x, i) -> x.front(i, 0));
    }

    void p21FrontWhat() {
        ask(asked(TRIANGLE, 0, 2, 6, 7), (x, what) -> x.front(0, what));
        ask(asked(TRIANGLE, 0, 2, 5, 5), (x, what) -> x.front(1, what));
        refuse(asked(TRIANGLE, 0, -1, NONE, NONE), (x, what) -> x.front(2, what));
    }

    void p21FrontAllWrong() {
        refuseAllWrong(2, NONE, (x, n) -> x.front(n[0], n[1]));
    }

    void p22SwapsFrom() {
        ask(asked(ONE_TREE, 127, 127, 0, 0), (x, a) -> x.swaps(a, 127));
        ask(asked(FULL, 127, 16256, 0, 7), (x, a) -> x.swaps(a, 127));
        refuse(asked(NEW, 0, -1, NONE, NONE), (x, a) -> x.swaps(a, a));
    }

    void p22SwapsTo() {
        ask(asked(ONE_TREE, 127, 127, 0, 0), (x, b) -> x.swaps(127, b));
        ask(asked(FULL, 127, 16256, 0, 7), (x, b) -> x.swaps(127, b));
    }

    void p22SwapsAllWrong() {
        refuseAllWrong(2, NONE, (x, n) -> x.swaps(n[0], n[1]));
    }

    void p23StepFrom() {
        ask(asked(ONE_TREE, 127, 127, 127, 127), (x, a) -> x.step(a, 127, 0));
        ask(asked(FULL, 127, 16256, 127, 16256), (x, a) -> x.step(a, 127, 0));
        refuse(asked(NEW, 0, -1, NONE, NONE), (x, a) -> x.step(a, a, 0));
    }

    void p23StepTo() {
        ask(asked(ONE_TREE, 127, 127, 127, 127), (x, b) -> x.step(127, b, 0));
        ask(asked(FULL, 127, 16256, 127, 127), (x, b) -> x.step(127, b, 0));
    }

    void p23StepIndex() {
        ask(asked(ONE_TREE, 0, 0, 127, 127), (x, i) -> x.step(127, 127, i));
        ask(asked(TRIANGLE, 0, 1, 3, 6), (x, i) -> x.step(3, 6, i));
        ask(asked(FULL, 0, 7, 127, 16256), (x, i) -> x.step(127, 16256, i));
    }

    void p23StepAllWrong() {
        refuseAllWrong(3, NONE, (x, n) -> x.step(n[0], n[1], n[2]));
    }

    void p24LookLine() {
        refuse(asked(NEW, 0, -1, NONE, NONE), (x, e) -> x.look(e, 0));
        ask(asked(ONE_LINE, 0, 0, 1, 1), (x, e) -> x.look(e, 1));
        ask(asked(SQUARE, 0, 4, 1, 2), (x, e) -> x.look(e, 2));
        ask(asked(FULL, 0, 13, 1, 0), (x, e) -> x.look(e, 3));
    }

    void p24LookWhat() {
        ask(asked(SQUARE, 0, 4, 3, 0), (x, what) -> x.look(3, what));
        ask(asked(ALL_CUT, 0, 4, 3, 1), (x, what) -> x.look(3, what));
        refuse(asked(SQUARE, 0, -1, NONE, NONE), (x, what) -> x.look(5, what));
    }

    void p24LookAllWrong() {
        refuseAllWrong(2, NONE, (x, n) -> x.look(n[0], n[1]));
    }

    void p25CountWhat() {
        for (int posts = 2; posts <= 8; posts++) {
            int n = posts;
            Supplier<LimitTrees> net = () -> Nets.row(n);
            Set<Integer> allowed = new LinkedHashSet<>();
            for (int what = 0; what <= 9; what++) allowed.add(what);
            for (int v = 0; v < n; v++) allowed.add(20 + v);
            for (int v = 0; v < n; v++) allowed.add(30 + v);
            Set<Integer> whats = beyond(0, 9);
            whats.addAll(beyond(20, 20 + n - 1));
            whats.addAll(beyond(30, 30 + n - 1));
            for (int what = -40; what <= 300; what++) whats.add(what);
            for (int what : whats) due.is("count(" + what + ") of " + n, net.get().count(what) != NONE, allowed.contains(what));
            whats.removeAll(allowed);
            for (int what : whats) refused.changesNothing("count(" + what + ")", net, x -> x.count(what));
        }
    }
}
