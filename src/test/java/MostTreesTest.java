import java.util.Arrays;

/**
 * The class keeps room for 1280 trees. Here it is shown that no net has more.
 *
 * A line more never makes fewer trees, so nets of 14 lines are enough. By the roots of the normalised
 * Laplacian, n posts with degrees d have at most (n / (n - 1)) ^ (n - 1) * (product of d) / 28 trees; all nets
 * of those degrees for which this is above 1280 are gone through, several lines between two posts among them.
 */
public final class MostTreesTest {
    private static final int ROOM = 1280;
    private static final int LINES = 14;

    private final int posts;
    private final int[] degrees;
    private final int[] left;
    private final int[][] lines;
    private long most;
    private int[][] greatest;

    private MostTreesTest(int posts) {
        this.posts = posts;
        degrees = new int[posts];
        left = new int[posts];
        lines = new int[posts][posts];
    }

    public static void main(String[] args) {
        Due due = new Due("most trees");
        long most = 0;
        int[][] greatest = null;
        for (int posts = 2; posts <= 8; posts++) {
            MostTreesTest test = new MostTreesTest(posts);
            test.tryDegrees(0, 2 * LINES, 2 * LINES);
            if (test.most > most) {
                most = test.most;
                greatest = test.greatest;
            }
        }
        due.is("the most trees of a net", most, ROOM);
        LimitTrees x = new LimitTrees();
        x.posts(greatest.length);
        for (int a = 0; a < greatest.length; a++) {
            for (int b = 0; b < a; b++) {
                for (int i = 0; i < greatest[a][b]; i++) x.line(a, b, 1, 0);
            }
        }
        due.is("lines of the greatest net", x.count(1), LINES);
        due.is("its trees", x.count(9), ROOM);
        due.is("its good trees", x.many(), ROOM);
        due.is("its last tree is there", x.good(ROOM - 1) > x.good(ROOM - 2), true);
        due.is("like prices are ranked by bits", x.ranked(ROOM - 1), x.good(ROOM - 1));
        due.is("from the last to the first", x.swaps(x.good(ROOM - 1), x.good(0)) > 3, true);
        due.is("slack of the last line", x.slack(LINES - 1), 0);
        due.end();
    }

    private void tryDegrees(int v, int sum, int highest) {
        if (v == posts) {
            if (sum == 0 && bound() > ROOM) {
                System.arraycopy(degrees, 0, left, 0, posts);
                tryLines(0, 1);
            }
            return;
        }
        for (int d = 1; d <= Math.min(sum, highest); d++) {
            degrees[v] = d;
            tryDegrees(v + 1, sum - d, d);
        }
    }

    private double bound() {
        double product = Arrays.stream(degrees).asDoubleStream().reduce(1, (a, b) -> a * b);
        return Math.pow(posts / (posts - 1.0), posts - 1) * product / (2 * LINES);
    }

    private void tryLines(int a, int b) {
        if (a == posts - 1) {
            if (left[a] == 0) weigh();
            return;
        }
        if (b == posts) {
            if (left[a] == 0) tryLines(a + 1, a + 2);
            return;
        }
        int room = Math.min(left[a], left[b]);
        for (int many = 0; many <= room; many++) {
            put(a, b, many);
            tryLines(a, b + 1);
            put(a, b, -many);
        }
    }

    private void put(int a, int b, int many) {
        lines[a][b] += many;
        lines[b][a] += many;
        left[a] -= many;
        left[b] -= many;
    }

    private void weigh() {
        long trees = trees();
        if (trees > most) {
            most = trees;
            greatest = new int[posts][];
            for (int v = 0; v < posts; v++) greatest[v] = lines[v].clone();
        }
    }

    /** Kirchhoff's theorem, by Bareiss's elimination, whose divisions leave no rest. */
    private long trees() {
        int n = posts - 1;
        long[][] m = new long[n][n];
        for (int r = 0; r < n; r++) {
            for (int c = 0; c < n; c++) m[r][c] = r == c ? degrees[r] : -lines[r][c];
        }
        long before = 1;
        for (int k = 0; k < n - 1; k++) {
            // a Laplacian without a row has no negative minors; one that is 0 stands for a net that isn't joined
            if (m[k][k] == 0) return 0;
            for (int r = k + 1; r < n; r++) {
                for (int c = k + 1; c < n; c++) m[r][c] = (m[r][c] * m[k][k] - m[r][k] * m[k][c]) / before;
            }
            before = m[k][k];
        }
        return m[n - 1][n - 1];
    }
}
