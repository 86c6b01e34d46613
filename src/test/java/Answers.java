import java.util.ArrayList;
import java.util.List;
import java.util.function.Supplier;
import java.util.function.ToIntFunction;

/** All answers of a net, asked of ever new objects made alike, since one is good for 512 calls alone. */
final class Answers {
    private static final int CALLS = 400;
    private static final int FEW_LINES = 6;
    private static final int FEW_TREES = 8;

    private final Supplier<LimitTrees> net;
    private final List<Integer> row = new ArrayList<>();
    private LimitTrees x;
    private int calls;

    private Answers(Supplier<LimitTrees> net) {
        this.net = net;
    }

    static List<Integer> of(Supplier<LimitTrees> net) {
        Answers answers = new Answers(net);
        answers.askWhatWasTold();
        answers.askTrees();
        answers.askFront();
        answers.askSets();
        answers.askRoutes();
        return answers.row;
    }

    private int ask(ToIntFunction<LimitTrees> question) {
        if (x == null || calls == CALLS) {
            x = net.get();
            calls = 0;
        }
        calls++;
        int answer = question.applyAsInt(x);
        row.add(answer);
        return answer;
    }

    private void askWhatWasTold() {
        for (int i = -1; i <= 40; i++) {
            int what = i;
            ask(y -> y.count(what));
        }
        for (int i = -1; i <= 14; i++) {
            for (int k = -1; k <= 5; k++) {
                int e = i;
                int what = k;
                ask(y -> y.look(e, what));
            }
        }
    }

    private void askTrees() {
        ask(LimitTrees::bar);
        int many = ask(LimitTrees::many);
        for (int k = -1; k <= many; k++) {
            int i = k;
            ask(y -> y.good(i));
            ask(y -> y.ranked(i));
        }
        for (int i = -1; i <= 14; i++) {
            int e = i;
            ask(y -> y.slack(e));
        }
    }

    private void askFront() {
        int many = ask(LimitTrees::many);
        boolean more = true;
        for (int k = -1; k <= many && more; k++) {
            int i = k;
            more = ask(y -> y.front(i, 0)) >= 0 || i < 0;
            ask(y -> y.front(i, 1));
            ask(y -> y.front(i, 2));
        }
    }

    private void askSets() {
        int lines = ask(y -> y.count(1));
        if (lines <= FEW_LINES) {
            for (int set = -1; set <= 1 << lines; set++) askSet(set);
            return;
        }
        askSet(0);
        askSet((1 << lines) - 1);
        for (int tree : someGoodTrees()) askSet(tree);
    }

    private void askSet(int set) {
        ask(y -> y.tree(set));
        ask(y -> y.breaks(set));
        for (int k = 0; k <= 5; k++) {
            int what = k;
            ask(y -> y.measure(set, what));
        }
    }

    private void askRoutes() {
        List<Integer> trees = someGoodTrees();
        for (int a : trees) {
            for (int b : trees) {
                int swaps = ask(y -> y.swaps(a, b));
                for (int k = 0; k <= swaps + 1; k++) {
                    int i = k;
                    ask(y -> y.step(a, b, i));
                }
            }
        }
    }

    /** All of few trees; of more, some from the first to the last. */
    private List<Integer> someGoodTrees() {
        List<Integer> trees = new ArrayList<>();
        int many = ask(LimitTrees::many);
        for (int k = 0; k < Math.min(many, FEW_TREES); k++) {
            int i = many <= FEW_TREES ? k : k * (many - 1) / (FEW_TREES - 1);
            trees.add(ask(y -> y.good(i)));
        }
        return trees;
    }
}
