import java.lang.management.ManagementFactory;
import java.lang.reflect.Constructor;
import java.lang.reflect.Field;
import java.lang.reflect.Method;
import java.lang.reflect.Modifier;
import java.nio.file.Files;
import java.nio.file.Path;
import java.util.ArrayList;
import java.util.List;
import java.util.Set;
import java.util.TreeSet;
import java.util.regex.Matcher;
import java.util.regex.Pattern;

/** What LANGUAGE.md asks of the file and what can be looked at from without: the face, the words, the room. */
public final class RulesTest {
    private static final Set<String> FACE = Set.of(
        "public static final int NONE",
        "public LimitTrees()",
        "public boolean posts(int)",
        "public int line(int,int,int,int)",
        "public boolean cut(int,boolean)",
        "public boolean price(int,int)",
        "public boolean degree(int,int)",
        "public boolean depth(int)",
        "public boolean root(int)",
        "public boolean load(int)",
        "public boolean demand(int,int)",
        "public boolean reds(int,int)",
        "public boolean way(int)",
        "public int tree(int)",
        "public int breaks(int)",
        "public int measure(int,int)",
        "public int many()",
        "public int good(int)",
        "public int ranked(int)",
        "public int slack(int)",
        "public int bar()",
        "public int front(int,int)",
        "public int swaps(int,int)",
        "public int step(int,int,int)",
        "public int look(int,int)",
        "public int count(int)");
    private static final String[] FORBIDDEN = {"\\bthrow\\b", "\\btry\\b", "\\bcatch\\b", "\\bsynchronized\\b", "\\bassert\\b",
        "->", "::", "\\bstatic\\s*\\{", "\\bpackage\\b", "\\bRandom\\b", "\\bThread\\b", "\\bException\\b", "Exact\\b",
        "\\bprotected\\b", "\\bSystem\\.(?!arraycopy)", "\\bimport (?!java\\.util\\.(Arrays|ArrayList|List);)"};
    // a capital before the point: a class of the library, since no class inside has static methods that are called so
    private static final Pattern LIBRARY_CALL = Pattern.compile("\\b([A-Z]\\w*[a-z]\\w*)\\.([a-z]\\w*)\\(");
    private static final Set<String> LIBRARY = Set.of("Integer.bitCount", "Long.bitCount", "Math.max", "Arrays.fill");
    private static final Pattern DOCUMENTS_FACE = Pattern.compile("(?s)## The public face\\s+```java\\n(.*?)```");
    private static final int LONGEST_METHOD = 60;
    private static final int MOST_PARAMETERS = 7;
    // 512 calls, were each of them a constructor, must not fill the room of 7.3 million elements
    private static final int MOST_ELEMENTS = 14_000;

    private static final Due DUE = new Due("rules");

    public static void main(String[] args) throws Exception {
        lookAtFace();
        lookAtDocument(Files.readString(Path.of("../shared/DOC.md")));
        lookAtNames();
        lookAtText(Files.readString(Path.of("src/main/java/LimitTrees.java")));
        lookAtRoom();
        DUE.end();
    }

    private static void lookAtFace() {
        Set<String> seen = new TreeSet<>();
        for (Field field : LimitTrees.class.getDeclaredFields()) {
            if (!Modifier.isPrivate(field.getModifiers())) {
                seen.add(Modifier.toString(field.getModifiers()) + " " + field.getType().getName() + " " + field.getName());
            }
        }
        for (Constructor<?> made : LimitTrees.class.getDeclaredConstructors()) {
            seen.add(Modifier.toString(made.getModifiers()) + " " + made.getName() + types(made.getParameterTypes()));
        }
        for (Method method : LimitTrees.class.getDeclaredMethods()) {
            if (!Modifier.isPrivate(method.getModifiers())) {
                String kind = Modifier.toString(method.getModifiers()) + " " + method.getReturnType().getName();
                seen.add(kind + " " + method.getName() + types(method.getParameterTypes()));
            }
        }
        DUE.is("the face is " + seen + ", is it the document's:", seen.equals(FACE), true);
        DUE.is("public and final", LimitTrees.class.getModifiers(), Modifier.PUBLIC | Modifier.FINAL);
    }

    /** FACE above is what the document has, so that a change there is seen here. */
    private static void lookAtDocument(String document) {
        Matcher block = DOCUMENTS_FACE.matcher(document);
        if (!block.find()) {
            DUE.fails("the document has no face");
            return;
        }
        List<String> lines = block.group(1).lines().map(String::strip).toList();
        DUE.is("the face begins with the class", lines.get(0).equals("public final class LimitTrees {"), true);
        DUE.is("the face ends with it", lines.get(lines.size() - 1).equals("}"), true);
        Set<String> told = new TreeSet<>();
        for (String line : lines.subList(1, lines.size() - 1)) {
            String bare = line.replaceAll(" = .*|;", "");
            told.add(bare.replaceAll("\\b(int|boolean) \\w+(?=[,)])", "$1").replace(", ", ","));
        }
        DUE.is("the document's face is " + told + ", is it FACE:", told.equals(FACE), true);
    }

    private static String types(Class<?>[] types) {
        List<String> names = new ArrayList<>();
        for (Class<?> type : types) names.add(type.getName());
        return "(" + String.join(",", names) + ")";
    }

    private static void lookAtNames() {
        Set<String> names = new TreeSet<>();
        for (Method method : LimitTrees.class.getDeclaredMethods()) {
            if (Modifier.isPublic(method.getModifiers())) names.add(method.getName());
        }
        List<Class<?>> classes = new ArrayList<>(List.of(LimitTrees.class.getDeclaredClasses()));
        for (Class<?> inside : classes) DUE.is(inside + " is static", Modifier.isStatic(inside.getModifiers()), true);
        DUE.is("at most twelve classes", classes.size() < 12, true);
        classes.add(LimitTrees.class);
        for (Class<?> type : classes) {
            int fields = 0;
            for (Field field : type.getDeclaredFields()) {
                if (!Modifier.isStatic(field.getModifiers())) fields++;
                else DUE.is(field + " is final", Modifier.isFinal(field.getModifiers()), true);
            }
            DUE.is("fields of " + type + " are at most twenty", fields <= 20, true);
            for (Method method : type.getDeclaredMethods()) {
                DUE.is("parameters of " + method, method.getParameterCount() <= MOST_PARAMETERS, true);
                if (Modifier.isPublic(method.getModifiers())) continue;
                DUE.is(method + " has the name of a public one", names.contains(method.getName()), false);
            }
        }
    }

    private static void lookAtText(String text) {
        String bare = text.replaceAll("(?s)/\\*.*?\\*/", "").replaceAll("//[^\n]*", "");
        for (String word : FORBIDDEN) DUE.is("the file has " + word, Pattern.compile(word).matcher(bare).find(), false);
        Matcher call = LIBRARY_CALL.matcher(bare);
        while (call.find()) {
            String name = call.group(1) + "." + call.group(2);
            DUE.is(name + " is of the library that LANGUAGE.md leaves", LIBRARY.contains(name), true);
        }
        Matcher method = Pattern.compile("(?m)^( {4}| {8})(?:[a-z]\\w*[\\[\\]]* )+\\w+\\([^)]*\\) \\{\n(?s:.*?)^\\1\\}").matcher(text);
        int methods = 0;
        while (method.find()) {
            methods++;
            int lines = method.group().split("\n").length;
            DUE.is("short enough: " + method.group().split("\n")[0].trim(), lines <= LONGEST_METHOD, true);
        }
        DUE.is("methods were found", methods > FACE.size() - 3, true);
    }

    private static void lookAtRoom() throws Exception {
        DUE.is("elements of an object, " + elements(new LimitTrees()) + ", are few", elements(new LimitTrees()) <= MOST_ELEMENTS, true);
        LimitTrees x = new LimitTrees();
        useAll(x);
        long before = allocated();
        for (int i = 0; i < 20; i++) useAll(x);
        long bytes = allocated() - before;
        // each method was called 120 times at least, and an object takes 16 bytes; the measuring itself takes some
        DUE.is("calls make nothing, measured bytes " + bytes, bytes < 1000, true);
    }

    private static long allocated() {
        com.sun.management.ThreadMXBean bean = (com.sun.management.ThreadMXBean) ManagementFactory.getThreadMXBean();
        return bean.getThreadAllocatedBytes(Thread.currentThread().getId());
    }

    /** Every method, on a net with hundreds of trees. */
    private static void useAll(LimitTrees x) {
        x.posts(7);
        for (int e = 0; e < 14; e++) x.line(e % 7, (e % 7 + 1 + e / 7) % 7, e * e % 11, e % 2);
        for (int round = 0; round < 6; round++) {
            x.price(round, 3 + round);
            x.degree(round, 3);
            x.depth(6 - round % 2);
            x.root(round);
            x.load(90);
            x.demand(round, round);
            x.reds(0, 6);
            x.way(60);
            int last = x.many() - 1;
            int a = x.good(0);
            int b = x.ranked(last);
            x.slack(round);
            x.front(round, 0);
            x.swaps(a, b);
            x.step(a, b, 2);
            x.tree(a);
            x.breaks(a);
            x.measure(a, round);
            x.look(round, round);
            for (int what = 0; what < 40; what++) x.count(what);
            x.depth(0);
            x.bar();
            x.cut(round, true);
        }
    }

    /** Fields and elements of an object and of all that it holds. */
    private static int elements(Object object) throws Exception {
        List<Object> seen = new ArrayList<>();
        gather(object, seen);
        int sum = 0;
        for (Object one : seen) {
            sum += one.getClass().isArray() ? java.lang.reflect.Array.getLength(one) : one.getClass().getDeclaredFields().length;
        }
        return sum;
    }

    private static void gather(Object object, List<Object> seen) throws Exception {
        for (Object one : seen) if (one == object) return;
        seen.add(object);
        if (object.getClass().isArray()) return;
        for (Field field : object.getClass().getDeclaredFields()) {
            if (field.getType().isPrimitive() || Modifier.isStatic(field.getModifiers())) continue;
            field.setAccessible(true);
            if (field.get(object) != null) gather(field.get(object), seen);
        }
    }
}
