import java.util.ArrayList;
import java.util.IdentityHashMap;
import java.util.List;
import java.util.Map;
import java.util.function.Consumer;
import java.util.function.Supplier;

/** Holds two nets against each other, one with a refused call in its run and one without: all answers are alike. */
final class Refused {
    private static final Consumer<LimitTrees> NO_CALL = x -> { };

    private final Due due;
    private final Map<Supplier<LimitTrees>, List<List<Integer>>> withoutCall = new IdentityHashMap<>();

    Refused(Due due) {
        this.due = due;
    }

    void changesNothing(String what, Supplier<LimitTrees> net, Consumer<LimitTrees> call) {
        List<List<Integer>> want = withoutCall.computeIfAbsent(net, key -> allRuns(key, NO_CALL));
        due.is(what + ", as if it had not been made,", allRuns(net, call).equals(want), true);
    }

    /** The call comes before anything was asked, or after; and more is told behind it, or not. */
    private static List<List<Integer>> allRuns(Supplier<LimitTrees> net, Consumer<LimitTrees> call) {
        List<List<Integer>> runs = new ArrayList<>();
        runs.add(Answers.of(() -> made(net, NO_CALL, call, NO_CALL)));
        runs.add(Answers.of(() -> made(net, Refused::askMuch, call, NO_CALL)));
        runs.add(Answers.of(() -> made(net, NO_CALL, call, Refused::tellMuch)));
        runs.add(Answers.of(() -> made(net, Refused::askMuch, call, Refused::tellMuch)));
        return runs;
    }

    private static LimitTrees made(Supplier<LimitTrees> net, Consumer<LimitTrees> before, Consumer<LimitTrees> call,
            Consumer<LimitTrees> after) {
        LimitTrees x = net.get();
        before.accept(x);
        call.accept(x);
        after.accept(x);
        return x;
    }

    /** So that whatever an object keeps from one question to the next is there. */
    private static void askMuch(LimitTrees x) {
        x.ranked(0);
        x.front(0, 0);
        x.swaps(x.good(0), x.good(x.many() - 1));
        x.breaks(x.good(0));
        x.bar();
    }

    private static void tellMuch(LimitTrees x) {
        x.line(0, 1, 3, 1);
        x.line(1, 0, 0, 0);
        x.cut(0, x.look(0, 4) == 0);
        x.price(1, 8);
        x.root(1);
        x.degree(1, 2);
        x.demand(0, 3);
        x.way(6900);
    }
}
