import java.lang.reflect.Method;
import java.util.ArrayList;
import java.util.Arrays;
import java.util.List;
import java.util.Random;

/** Runs of 512 calls, drawn (of seeds that are always the same): each is answered as the Model answers it. */
public final class ModelTests {
    private static final int MOST_CALLS = 512;
    /** By call the numbers that are drawn for each argument: 0 up to what stands here. */
    private static final String[] NEAR = {
        "job 5 30 20 30", "job 5 60 20 60", "job 6 61 21 61", "set 7 3 20", "set 8 4 61", "told 8 7", "drop 30",
        "taken 8 6", "greedy 8 2", "breaking 2", "critical 5", "branch 2 3", "bound 256", "strongest 2", "least 3",
        "many", "order 8", "must 8", "room 8", "gain 8", "judge 4 4", "judge 3 3", "film 4", "drawn 99 31",
        "chance 99 9 31 200 2", "chance 9 8 5 99 1", "go 61", "go 9", "bench 4", "began 8", "image", "back",
        "count 3", "sheet 4 2 41", "sheet 3 1 8", "put 4 41 9", "put 3 8 8", "item 4 41", "item 3 8",
        "copy 4 41 4 41 41", "copy 3 8 3 8 8", "copy 3 4 3 4 4",
    };

    private final Random random;
    private final BenchWithTails x = new BenchWithTails();
    private final Model model = new Model();
    private final List<String> calls = new ArrayList<>();

    private ModelTests(int seed) {
        random = new Random(seed);
    }

    public static void main(String[] args) throws ReflectiveOperationException {
        for (int seed = 0; seed < 400; seed++) {
            new ModelTests(seed).run(seed % 4 == 0 ? 8 : 3 + seed % 4);
        }
        Check.end("ModelTests");
    }

    /** JOBS are dropped above so many, since the Model lays all orders. */
    private void run(int mostJobs) throws ReflectiveOperationException {
        while (calls.size() < MOST_CALLS - 60) {
            int draw = random.nextInt(NEAR.length + 3);
            if (draw == NEAR.length) {
                items();
            } else if (draw == NEAR.length + 1) {
                order();
            } else if (draw == NEAR.length + 2 || model.count(0) > mostJobs) {
                same("drop", random.nextInt(8));
            } else {
                any(NEAR[draw].split(" "), mostJobs);
            }
        }
    }

    private void any(String[] near, int mostJobs) throws ReflectiveOperationException {
        boolean slow = "many order must room gain film".contains(near[0]);
        if (slow && model.count(0) > 6 || near[0].equals("room") && model.count(0) > 5) {
            return;
        }
        long[] arguments = new long[near.length - 1];
        for (int i = 0; i < arguments.length; i++) {
            arguments[i] = number(Integer.parseInt(near[i + 1]));
        }
        same(near[0], arguments);
    }

    private long number(int near) {
        long[] far = {-1, -1, -1, -2, near + 1, Integer.MIN_VALUE, Integer.MAX_VALUE, 256, 1000};
        return random.nextInt(20) == 0 ? far[random.nextInt(far.length)] : random.nextInt(near + 1);
    }

    /** Feeds a text that is ITEMS, or nearly, and reads it. */
    private void items() throws ReflectiveOperationException {
        StringBuilder text = new StringBuilder();
        for (int n = random.nextInt(3); n >= 0; n--) {
            text.append("prhdms".charAt(random.nextInt(6))).append(random.nextInt(62)).append(',');
            text.append(random.nextInt(22)).append(',').append(random.nextInt(30)).append(n > 0 ? ";" : "");
        }
        if (random.nextInt(3) == 0) {
            text.setCharAt(random.nextInt(text.length()), "0123456789,;p \u00ff".charAt(random.nextInt(15)));
        }
        for (int i = 0; i < text.length(); i += 5) {
            long[] bytes = new long[6];
            bytes[0] = Math.min(5, text.length() - i);
            for (int k = 1; k < 6; k++) {
                bytes[k] = i + k <= text.length() ? text.charAt(i + k - 1) : number(255);
            }
            same("feed", bytes);
        }
        if (random.nextInt(8) > 0) {
            same("text");
        }
    }

    /** A SHEET that tells an ORDER, or nearly. */
    private void order() throws ReflectiveOperationException {
        int sheet = random.nextInt(4);
        int n = model.count(0);
        same("sheet", sheet, random.nextInt(2), n);
        List<Integer> order = new ArrayList<>();
        for (int i = 0; i < n; i++) {
            order.add(random.nextInt(i + 1), i);
        }
        for (int k = 0; k < n; k++) {
            same("put", sheet, k, order.get(k) + (random.nextInt(40) == 0 ? 1L << 32 : 0));
        }
        for (int what = 0; what < 4; what++) {
            same("judge", sheet, what);
        }
    }

    /** The same call of both. */
    private void same(String call, long... arguments) throws ReflectiveOperationException {
        calls.add(call + Arrays.toString(arguments));
        long got = answer(x, call, arguments);
        long want = answer(model, call, arguments);
        Check.due(got == want ? call : "the last of " + calls, got, want);
    }

    private static long answer(Object of, String call, long[] arguments) throws ReflectiveOperationException {
        for (Method method : of.getClass().getDeclaredMethods()) {
            if (method.getName().equals(call) && java.lang.reflect.Modifier.isPublic(method.getModifiers())) {
                Object[] told = new Object[arguments.length];
                for (int i = 0; i < told.length; i++) {
                    if (method.getParameterTypes()[i] == int.class) {
                        told[i] = (int) arguments[i];
                    } else {
                        told[i] = arguments[i];
                    }
                }
                return ((Number) method.invoke(of, told)).longValue();
            }
        }
        throw new IllegalStateException("no call " + call);
    }
}
