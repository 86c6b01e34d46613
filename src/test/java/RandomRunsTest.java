import java.lang.reflect.Method;
import java.lang.reflect.Modifier;
import java.util.ArrayList;
import java.util.Arrays;
import java.util.List;
import java.util.Map;
import java.util.Random;
import java.util.TreeMap;

/** Runs of random calls, the same ones each time, on LimitTrees and on PlainTrees: all answers are alike. */
public final class RandomRunsTest {
    private static final int[] EDGES = {Integer.MIN_VALUE, -2, -1, 0, 1, 2, 7, 8, 9, 13, 14, 15, 20, 27, 28, 29, 30, 37, 38,
        98, 99, 100, 998, 999, 1000, 9998, 9999, 10000, 16383, 16384, 32767, Integer.MAX_VALUE};

    private final Random random;
    private final LimitTrees real = new LimitTrees();
    private final PlainTrees plain = new PlainTrees();
    private final Map<String, Method> realMethods = methods(LimitTrees.class);
    private final Map<String, Method> plainMethods = methods(PlainTrees.class);
    private final List<String> names = new ArrayList<>(realMethods.keySet());
    private final List<String> run = new ArrayList<>();
    private int differences;

    private RandomRunsTest(long seed) {
        random = new Random(seed);
    }

    public static void main(String[] args) throws Exception {
        int differences = 0;
        for (int seed = 0; seed < 400 && differences == 0; seed++) {
            RandomRunsTest test = new RandomRunsTest(seed);
            test.runSmallNets();
            differences += test.differences;
        }
        for (int seed = 0; seed < 12 && differences == 0; seed++) {
            RandomRunsTest test = new RandomRunsTest(1000 + seed);
            test.runGreatNet();
            differences += test.differences;
        }
        System.out.println(differences == 0 ? "random runs: all answers alike" : "random runs: answers differ");
        if (differences != 0) System.exit(1);
    }

    private static Map<String, Method> methods(Class<?> type) {
        Map<String, Method> row = new TreeMap<>();
        for (Method method : type.getDeclaredMethods()) {
            if (Modifier.isPublic(method.getModifiers())) row.put(method.getName(), method);
        }
        return row;
    }

    private void runSmallNets() throws Exception {
        for (int net = 0; net < 6; net++) {
            makeNet(2 + random.nextInt(5), 1 + random.nextInt(9), 1 + random.nextInt(20));
            for (int i = 0; i < 60; i++) {
                if (random.nextInt(3) == 0) changeUsefully();
                else if (random.nextInt(4) == 0) callWildly();
                else askUsefully();
            }
        }
    }

    private void runGreatNet() throws Exception {
        makeNet(6 + random.nextInt(3), 14, 1 + random.nextInt(30));
        for (int i = 0; i < 25; i++) {
            if (random.nextInt(3) == 0) changeUsefully();
            else askUsefully();
        }
    }

    private void makeNet(int posts, int lines, int prices) throws Exception {
        if (random.nextInt(8) != 0) both("posts", posts);
        int there = plain.count(0);
        for (int i = 0; i < lines; i++) {
            both("line", random.nextInt(there), random.nextInt(there), random.nextInt(prices), random.nextInt(2));
        }
        for (int i = 0; plain.count(1) < lines && i < 100; i++) {
            both("line", random.nextInt(there), random.nextInt(there), random.nextInt(1000), random.nextInt(2));
        }
    }

    private void changeUsefully() throws Exception {
        int post = random.nextInt(plain.count(0));
        int line = random.nextInt(plain.count(1) + 1);
        switch (random.nextInt(12)) {
            case 0: case 1: both("cut", line, random.nextBoolean()); break;
            case 2: both("price", line, random.nextInt(20)); break;
            case 3: both("degree", post, 1 + random.nextInt(4)); break;
            case 4: both("depth", 1 + random.nextInt(7)); break;
            case 5: both("root", post); break;
            case 6: both("load", 1 + random.nextInt(12)); break;
            case 7: both("demand", post, random.nextInt(4)); break;
            case 8: both("reds", random.nextInt(3), 1 + random.nextInt(5)); break;
            case 9: both("way", 10 + random.nextInt(60)); break;
            case 10: both("line", post, random.nextInt(plain.count(0)), random.nextInt(9), random.nextInt(2)); break;
            default: loosen();
        }
    }

    private void loosen() throws Exception {
        for (int v = 0; v < plain.count(0); v++) both("degree", v, 14);
        both("depth", 7);
        both("load", 9999);
        both("reds", 0, 14);
        both("way", 9999);
    }

    private void askUsefully() throws Exception {
        int set = random.nextInt(4) == 0 ? random.nextInt(1 << plain.count(1)) : someTree();
        int line = random.nextInt(plain.count(1) + 1);
        switch (random.nextInt(12)) {
            case 0: both("tree", set); break;
            case 1: both("breaks", set); break;
            case 2: both("measure", set, random.nextInt(6)); break;
            case 3: both("many"); both("count", 9); break;
            case 4: both("good", random.nextInt(1 + plain.many())); break;
            case 5: both("ranked", random.nextInt(1 + plain.many())); break;
            case 6: both("slack", line); break;
            case 7: case 8: both("bar"); break;
            case 9: askFront(); break;
            default: askRoute(someTree(), someTree());
        }
    }

    private int someTree() {
        int many = plain.many();
        return many == 0 ? 0 : plain.good(random.nextInt(many));
    }

    private void askFront() throws Exception {
        for (int i = 0; i == 0 || plain.front(i - 1, 0) != -1; i++) {
            for (int what = 0; what < 3; what++) both("front", i, what);
        }
    }

    private void askRoute(int a, int b) throws Exception {
        both("swaps", a, b);
        int last = plain.swaps(a, b);
        for (int i = 0; i <= last + 1; i++) both("step", a, b, i);
    }

    private void callWildly() throws Exception {
        String name = names.get(random.nextInt(names.size()));
        // posts would empty most nets before they are asked anything
        if (name.equals("posts") && random.nextInt(4) != 0) return;
        Class<?>[] types = realMethods.get(name).getParameterTypes();
        Object[] args = new Object[types.length];
        for (int i = 0; i < types.length; i++) {
            if (types[i] == boolean.class) args[i] = random.nextBoolean();
            else args[i] = random.nextBoolean() ? EDGES[random.nextInt(EDGES.length)] : random.nextInt(64);
        }
        both(name, args);
    }

    private void both(String name, Object... args) throws Exception {
        Object got = realMethods.get(name).invoke(real, args);
        Object want = plainMethods.get(name).invoke(plain, args);
        String call = name + Arrays.toString(args);
        run.add(call + " = " + want);
        if (got.equals(want)) return;
        differences++;
        if (differences == 1) {
            run.subList(Math.max(0, run.size() - 40), run.size()).forEach(System.out::println);
            System.out.println(call + " answered " + got + ", due is " + want);
        }
    }
}
