import java.util.function.IntSupplier;
import java.util.function.LongSupplier;

/** Counts what is as due, and prints what is not. */
final class Check {
    private static int right = 0;
    private static int wrong = 0;

    private Check() {
    }

    static void due(String call, long got, long want) {
        if (got == want) {
            right++;
            return;
        }
        wrong++;
        if (wrong <= 50) {
            System.out.println(call + " answered " + got + ", due is " + want);
        }
    }

    static void due(String call, String got, String want) {
        if (!got.equals(want)) {
            System.out.println(call + ": got " + got + ", due is " + want);
        }
        due(call, got.equals(want) ? 1 : 0, 1);
    }

    /** A refused call answers what is due and changes nothing that can be seen. */
    static void refused(BenchWithTails x, String call, LongSupplier run, long want) {
        String was = State.of(x);
        due(call, run.getAsLong(), want);
        due("the state after " + call, State.of(x), was);
    }

    /** Feeds a text whole; answers what text() answers. */
    static int read(BenchWithTails x, String text) {
        for (int i = 0; i < text.length(); i++) {
            due("feed of " + text, x.feed(1, text.charAt(i), 0, 0, 0, 0), x.count(2));
        }
        return x.text();
    }

    static void text(BenchWithTails x, String text, int want) {
        due("text() of \"" + text + "\"", read(x, text), want);
        due("THE TAPE after \"" + text + "\"", x.count(2), 0);
    }

    static void all(String call, int n, IntFunctionOfInt run, int... want) {
        due(call + ": how many", n, want.length);
        for (int i = 0; i < want.length; i++) {
            due(call + " " + i, run.at(i), want[i]);
        }
    }

    interface IntFunctionOfInt {
        long at(int i);
    }

    static int times(int n, IntSupplier run) {
        int last = 0;
        for (int i = 0; i < n; i++) {
            last = run.getAsInt();
        }
        return last;
    }

    static void end(String name) {
        System.out.println(name + ": " + right + " as due, " + wrong + " not");
        if (wrong != 0) {
            System.exit(1);
        }
    }
}
