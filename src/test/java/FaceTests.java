import java.io.IOException;
import java.lang.reflect.Constructor;
import java.lang.reflect.Field;
import java.lang.reflect.Method;
import java.lang.reflect.Modifier;
import java.nio.file.Files;
import java.nio.file.Path;
import java.util.ArrayList;
import java.util.Arrays;
import java.util.List;
import java.util.Random;
import java.util.TreeSet;
import java.util.regex.Pattern;

/** The whole face and nothing else; calls of any arguments in any state; what LANGUAGE.md leaves. */
public final class FaceTests {
    private static final String[] FACE = {
        "int feed int int int int int int", "int text", "int job int int int int", "int set int int int",
        "int told int int", "int drop int", "int taken int int", "int greedy int int", "int breaking int",
        "int critical int", "int branch int int", "int bound int", "int strongest int", "int least int",
        "int many", "int order int", "int must int", "int room int", "int gain int", "long judge int int",
        "int film int", "int drawn int int", "int chance int int int int int", "int go int", "int bench int",
        "int began int", "int image", "int back", "int count int", "int sheet int int int",
        "int put int int long", "long item int int", "int copy int int int int int",
    };
    private static final String[] CONSTANTS = {"NONE", "BAD", "STATE", "FULL", "NO"};

    private FaceTests() {
    }

    public static void main(String[] args) throws Exception {
        face();
        inside();
        language();
        anyCalls();
        noObjects();
        Check.end("FaceTests");
    }

    private static void face() {
        Class<?> c = BenchWithTails.class;
        Check.due("public and final", c.getModifiers(), Modifier.PUBLIC | Modifier.FINAL);
        TreeSet<String> found = new TreeSet<>();
        for (Method m : c.getDeclaredMethods()) {
            if (Modifier.isPublic(m.getModifiers()) && !Modifier.isStatic(m.getModifiers())) {
                found.add(signature(m));
            } else {
                Check.due(m.getName() + " is private", m.getModifiers() & Modifier.PRIVATE, Modifier.PRIVATE);
            }
        }
        Check.due("the face", found.toString(), new TreeSet<>(Arrays.asList(FACE)).toString());
        TreeSet<String> constants = new TreeSet<>();
        for (Field f : c.getDeclaredFields()) {
            if (!Modifier.isPrivate(f.getModifiers())) {
                constants.add(f.getName());
                Check.due(f.getName() + " is a constant", f.getModifiers(),
                        Modifier.PUBLIC | Modifier.STATIC | Modifier.FINAL);
                Check.due(f.getName(), f.getType().getName(), f.getName().equals("NO") ? "long" : "int");
            }
        }
        Check.due("constants", constants.toString(), new TreeSet<>(Arrays.asList(CONSTANTS)).toString());
        Constructor<?>[] made = c.getDeclaredConstructors();
        Check.due("constructors", made.length, 1);
        Check.due("its arguments", made[0].getParameterCount(), 0);
        Check.due("it is public", made[0].getModifiers(), Modifier.PUBLIC);
    }

    private static String signature(Method m) {
        StringBuilder text = new StringBuilder();
        text.append(m.getReturnType().getName()).append(' ').append(m.getName());
        for (Class<?> p : m.getParameterTypes()) {
            text.append(' ').append(p.getName());
        }
        return text.toString();
    }

    private static void inside() {
        List<String> faceNames = new ArrayList<>();
        for (String call : FACE) {
            faceNames.add(call.split(" ")[1]);
        }
        Class<?>[] classes = BenchWithTails.class.getDeclaredClasses();
        Check.due("some twenty fields", stateOf(BenchWithTails.class) <= 20 ? 1 : 0, 1);
        Check.due("some twelve classes", classes.length <= 11 ? 1 : 0, 1);
        for (Class<?> c : classes) {
            Check.due(c + " is static", Modifier.isStatic(c.getModifiers()) ? 1 : 0, 1);
            Check.due(c + " is not public", Modifier.isPublic(c.getModifiers()) ? 1 : 0, 0);
            for (Method m : c.getDeclaredMethods()) {
                Check.due(m + " has a name of its own", faceNames.contains(m.getName()) ? 1 : 0, 0);
                Check.due(m + " has few arguments", m.getParameterCount() <= 7 ? 1 : 0, 1);
            }
            Check.due(c + " has some twenty fields", stateOf(c) <= 20 ? 1 : 0, 1);
            for (Field f : c.getDeclaredFields()) {
                boolean free = Modifier.isStatic(f.getModifiers()) && !Modifier.isFinal(f.getModifiers());
                Check.due(f + " is no static state", free ? 1 : 0, 0);
            }
        }
    }

    private static int stateOf(Class<?> c) {
        int fields = 0;
        for (Field f : c.getDeclaredFields()) {
            fields += Modifier.isStatic(f.getModifiers()) ? 0 : 1;
        }
        return fields;
    }

    private static void language() throws IOException {
        String source = Files.readString(Path.of("src/main/java/BenchWithTails.java"));
        String code = source.replaceAll("(?s)/\\*.*?\\*/", "").replaceAll("//.*", "");
        String[] never = {"->", "::", "\\bcatch\\b", "\\bfinally\\b", "\\bthrow\\b", "\\bassert\\b",
            "\\bsynchronized\\b", "\\bstatic\\s*\\{", "\\bprotected\\b", "^package", "\\binstanceof\\b",
            "Exact\\b", "\\bdouble\\b", "\"", "import (?!java\\.util\\.Arrays;)", "[^\\x00-\\x7f]"};
        for (String sign : never) {
            boolean found = Pattern.compile(sign, Pattern.MULTILINE).matcher(code).find();
            Check.due(sign + " in the code", found ? 1 : 0, 0);
        }
        methodsAreShort(source);
    }

    private static void methodsAreShort(String source) {
        int since = 0;
        for (String line : source.split("\n")) {
            since = line.matches("( {4}| {8})(public|private|static|void|int|boolean|long)\\b.*\\{") ? 0 : since + 1;
            if (line.matches("( {4}| {8})\\}")) {
                Check.due("lines of the method that ends with " + line, since <= 60 ? 1 : 0, 1);
            }
        }
    }

    /** Near numbers, so that most calls are taken, and now and then far ones. */
    private static int any(Random random, int near) {
        int[] far = {Integer.MIN_VALUE, Integer.MAX_VALUE, -1, 255, 256, 999, 1000, 1 << 16};
        return random.nextInt(12) == 0 ? far[random.nextInt(far.length)] : random.nextInt(near);
    }

    private static long call(BenchWithTails x, Random r) {
        switch (r.nextInt(36)) {
            case 0: return x.feed(any(r, 7), any(r, 200), any(r, 200), any(r, 200), any(r, 200), any(r, 200));
            case 1: return x.text();
            case 2: return x.job(any(r, 7), any(r, 61), any(r, 22), any(r, 61));
            case 3: return x.set(any(r, 9), any(r, 5), any(r, 30));
            case 4: return x.told(any(r, 9), any(r, 8));
            case 5: return x.drop(any(r, 20));
            case 6: return x.taken(any(r, 9), any(r, 7));
            case 7: return x.greedy(any(r, 9) - 1, any(r, 3));
            case 8: return x.breaking(any(r, 3));
            case 9: return x.critical(any(r, 6));
            case 10: return x.branch(any(r, 3), any(r, 4));
            case 11: return x.bound(any(r, 257));
            case 12: return x.strongest(any(r, 3));
            case 13: return x.least(any(r, 4));
            case 14: return x.many();
            case 15: return x.order(any(r, 9));
            case 16: return x.must(any(r, 9));
            case 17: return x.room(any(r, 9));
            case 18: return x.gain(any(r, 9));
            case 19: return x.judge(any(r, 5), any(r, 5));
            case 20: return x.film(any(r, 5));
            case 21: return x.drawn(r.nextInt(), any(r, 32));
            case 22: return x.chance(r.nextInt(), any(r, 10), any(r, 32), any(r, 1001), any(r, 3));
            case 23: return x.go(any(r, 62));
            case 24: return x.bench(any(r, 5));
            case 25: return x.began(any(r, 9));
            case 26: return x.image();
            case 27: return x.back();
            case 28: return x.count(any(r, 4));
            case 29: return x.sheet(any(r, 5), any(r, 4) - 1, any(r, 42));
            case 30: return x.put(any(r, 5), any(r, 42), r.nextInt(9));
            case 31: return x.item(any(r, 5), any(r, 42));
            case 32: return x.copy(any(r, 5), any(r, 42), any(r, 5), any(r, 42), any(r, 42));
            case 33: return item(x, r);
            default: return x.job(r.nextInt(6), r.nextInt(61), 1 + r.nextInt(20), r.nextInt(61));
        }
    }

    private static long item(BenchWithTails x, Random r) {
        x.feed(3, "prhdms".charAt(r.nextInt(6)), '0' + r.nextInt(6), '0' + r.nextInt(10), 0, 0);
        x.feed(5, ',', '1', ',', '0' + r.nextInt(6), '0' + r.nextInt(11));
        return x.text();
    }

    private static void anyCalls() {
        Random random = new Random(3);
        for (int run = 0; run < 1500; run++) {
            BenchWithTails x = new BenchWithTails();
            for (int n = 0; n < 400; n++) {
                try {
                    call(x, random);
                } catch (RuntimeException thrown) {
                    Check.due("run " + run + ", call " + n + " threw " + thrown, 1, 0);
                    return;
                }
            }
            Oracle oracle = Oracle.of(x);
            Check.due("LEAST after any calls", x.least(0), oracle.search()[0]);
            Check.due("GREEDY after any calls", x.greedy(-1, 0), oracle.greedyFinish());
        }
    }

    /** All calls of a run live in one room: none of them makes an object. */
    private static void noObjects() {
        var threads = (com.sun.management.ThreadMXBean) java.lang.management.ManagementFactory.getThreadMXBean();
        long least = Long.MAX_VALUE;
        for (int run = 0; run < 20; run++) {
            BenchWithTails x = new BenchWithTails();
            long was = threads.getCurrentThreadAllocatedBytes();
            for (int n = 0; n < 20; n++) {
                dearCalls(x, n);
            }
            least = Math.min(least, threads.getCurrentThreadAllocatedBytes() - was);
        }
        Check.due("bytes that 20 rounds of calls took: " + least, least < 500 ? 1 : 0, 1);
    }

    private static void dearCalls(BenchWithTails x, int n) {
        x.job(n % 6, n % 61, 1 + n % 20, n * 7 % 61);
        x.feed(5, 'p', '1', ',', '2', ',');
        x.feed(1, '3', 0, 0, 0, 0);
        x.text();
        x.sheet(n % 4, n % 2, n % 41);
        x.put(n % 4, 0, n);
        x.copy(0, 0, 0, 1, 2);
        x.breaking(0);
        x.branch(1, 1);
        x.strongest(1);
        x.many();
        x.order(0);
        x.room(0);
        x.must(0);
        x.gain(0);
        x.film(1);
        x.judge(1, 2);
        x.drawn(n, 30);
        x.chance(n, 8, 30, 100, 0);
        x.go(20);
        x.image();
        x.back();
        if (x.count(0) > 6) {
            x.drop(0);
            x.drop(0);
        }
    }
}
