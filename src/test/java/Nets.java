import java.util.function.Consumer;

/** Nets whose answers can be reckoned by hand. */
final class Nets {
    private Nets() { }

    static LimitTrees with(LimitTrees x, Consumer<LimitTrees> change) {
        change.accept(x);
        return x;
    }

    /**
     * Lines 0: 0-1 at 5, plain; 1: 1-2 at 3, red; 2: 2-0 at 4, red. Its trees: 3 (5 + 3; the row 0-1-2),
     * 5 (5 + 4; both at post 0), 6 (3 + 4; the row 0-2-1).
     */
    static LimitTrees triangle() {
        LimitTrees x = new LimitTrees();
        x.posts(3);
        x.line(0, 1, 5, 0);
        x.line(1, 2, 3, 1);
        x.line(2, 0, 4, 1);
        return x;
    }

    /**
     * Lines 0, 1, 2 between 0 and 1 at 10, 1, 1, the first and last red; 3, 4 between 1 and 2 at 1, 5, the
     * last red. A tree is one of each: 9, 10, 12, 17, 18, 20.
     */
    static LimitTrees twice() {
        LimitTrees x = new LimitTrees();
        x.posts(3);
        x.line(0, 1, 10, 1);
        x.line(0, 1, 1, 0);
        x.line(0, 1, 1, 1);
        x.line(1, 2, 1, 0);
        x.line(1, 2, 5, 1);
        return x;
    }

    /**
     * A ring 0-1-2-3-0 at 1, 2, 1, 4, its second and last line red, and line 4 from 0 to 2 at 2. Its trees: 7, 11, 13,
     * 14, 21, 22, 25, 26; in their ranks 7 and 21 (4), 22 (5), 13 (6), 11, 14 and 25 (7), 26 (8).
     */
    static LimitTrees square() {
        LimitTrees x = new LimitTrees();
        x.posts(4);
        x.line(0, 1, 1, 0);
        x.line(1, 2, 2, 1);
        x.line(2, 3, 1, 0);
        x.line(3, 0, 4, 1);
        x.line(0, 2, 2, 0);
        return x;
    }

    /** The lines of the triangle, and post 3, which none of them joins. */
    static LimitTrees postAlone() {
        LimitTrees x = new LimitTrees();
        x.posts(4);
        x.line(0, 1, 5, 0);
        x.line(1, 2, 3, 1);
        x.line(2, 0, 4, 1);
        return x;
    }

    /** Line e from post e to post e + 1, all red and as dear as can be: one tree, of all lines. */
    static LimitTrees row(int posts) {
        LimitTrees x = new LimitTrees();
        x.posts(posts);
        for (int e = 0; e < posts - 1; e++) x.line(e, e + 1, 999, 1);
        return x;
    }

    /** Line e from post 0 to post e + 1, plain, at e + 1: one tree, of all lines. */
    static LimitTrees star(int posts) {
        LimitTrees x = new LimitTrees();
        x.posts(posts);
        for (int e = 0; e < posts - 1; e++) x.line(0, e + 1, e + 1, 0);
        return x;
    }

    /**
     * Full: 8 posts, 14 lines. Lines e (at 999, red) and e + 7 (at 998, plain) both lead from post e to e + 1; a tree
     * takes one of each two, so there are 128, the first by bits 127, the last 16256.
     */
    static LimitTrees doubledRow() {
        LimitTrees x = row(8);
        for (int e = 0; e < 7; e++) x.line(e + 1, e, 998, 0);
        return x;
    }

    /** Full as the doubled row, but all from post 0, and all prices 999, so that trees are ranked by their bits. */
    static LimitTrees doubledStar() {
        LimitTrees x = new LimitTrees();
        x.posts(8);
        for (int e = 0; e < 14; e++) x.line(0, e % 7 + 1, 999, 1);
        return x;
    }

    /**
     * Lines 0 (red) and 1 (plain) lead from 0 to 1 at 0 and 999, 2 (plain) and 3 (red) from 0 to 2 at 0 and 999. With
     * one red line are 5 (0 in all) and 10 (1998), and no swap leads from one to the other.
     */
    static LimitTrees farApart() {
        LimitTrees x = new LimitTrees();
        x.posts(3);
        x.line(0, 1, 0, 1);
        x.line(0, 1, 999, 0);
        x.line(0, 2, 0, 0);
        x.line(0, 2, 999, 1);
        x.reds(1, 1);
        return x;
    }

    /** No tree is good, but for each limit there is one that breaks it alone: 23, 15, 53, 57, 58, by the limits' bits. */
    static LimitTrees eachLimitAlone() {
        LimitTrees x = new LimitTrees();
        x.posts(5);
        x.line(0, 2, 1, 1);
        x.line(1, 0, 5, 0);
        x.line(4, 2, 9, 0);
        x.line(3, 4, 1, 1);
        x.line(3, 0, 9, 1);
        x.line(1, 2, 9, 1);
        x.degree(0, 2);
        x.depth(2);
        x.demand(1, 2);
        x.demand(2, 0);
        x.demand(3, 0);
        x.load(2);
        x.reds(2, 3);
        x.way(11);
        return x;
    }
}
