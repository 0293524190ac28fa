import java.util.function.Consumer;
import java.util.function.IntSupplier;
import java.util.function.IntToLongFunction;
import java.util.function.Supplier;
import java.util.function.ToLongFunction;

/** Counts what is as due, and prints what is not. */
final class Check {
    private static int right = 0;
    private static int wrong = 0;

    private Check() {
    }

    static void due(String call, long got, long want) {
        if (got == want) {
            right++;
            return;
        }
        wrong++;
        if (wrong <= 50) {
            System.out.println(call + " answered " + got + ", due is " + want);
        }
    }

    static void due(String call, String got, String want) {
        if (!got.equals(want)) {
            System.out.println(call + ": got " + got + ", due is " + want);
        }
        due(call, got.equals(want) ? 1 : 0, 1);
    }

    /** As many as are wanted, from number 0 on. */
    static void all(String call, IntToLongFunction run, long... want) {
        for (int i = 0; i < want.length; i++) {
            due(call + " " + i, run.applyAsLong(i), want[i]);
        }
    }

    /**
     * A refused call answers what is due and changes nothing: of two objects made alike the one that
     * had the call tells the same of itself as the other.
     */
    static void refused(Supplier<BenchWithTails> scene, String call, ToLongFunction<BenchWithTails> run, long want) {
        changesNothing(scene, call, x -> due(call, run.applyAsLong(x), want));
    }

    /** What is only in thought, or only answers, changes nothing. */
    static void changesNothing(Supplier<BenchWithTails> scene, String calls, Consumer<BenchWithTails> run) {
        BenchWithTails x = scene.get();
        run.accept(x);
        due("the state after " + calls, State.of(x), State.of(scene.get()));
    }

    /** What text() answers to a text; THE TAPE is empty then, whatever it was. */
    static void text(BenchWithTails x, String text, int want) {
        Scenes.feed(x, text);
        due("text() of \"" + text + "\"", x.text(), want);
        due("THE TAPE after \"" + text + "\"", x.count(2), 0);
    }

    static int times(int n, IntSupplier run) {
        int last = 0;
        for (int i = 0; i < n; i++) {
            last = run.getAsInt();
        }
        return last;
    }

    static void end(String name) {
        System.out.println(name + ": " + right + " as due, " + wrong + " not");
        if (wrong != 0) {
            System.exit(1);
        }
    }
}
