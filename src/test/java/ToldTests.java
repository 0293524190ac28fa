/** Promises 21 to 24: judge, film, drawn, chance. */
public final class ToldTests {
    private static final int BAD = -2, STATE = -3, MISSING = -11;
    private static final int[] FAR = {Integer.MIN_VALUE, Integer.MAX_VALUE};

    private ToldTests() {
    }

    public static void main(String[] args) {
        judge();
        judgeRefuses();
        film();
        drawn();
        drawnDraws();
        chance();
        chanceRefuses();
        Check.end("ToldTests");
    }

    private static BenchWithTails two() {
        BenchWithTails x = new BenchWithTails();
        x.job(0, 0, 5, 1);
        x.job(0, 2, 2, 10);
        return x;
    }

    private static void tell(BenchWithTails x, int sheet, int sort, long... row) {
        x.sheet(sheet, sort, row.length);
        for (int i = 0; i < row.length; i++) {
            x.put(sheet, i, row[i]);
        }
    }

    private static void judge() {
        BenchWithTails x = two();
        for (int sort = 0; sort < 2; sort++) {
            tell(x, 3, sort, 1, 0);
            Check.all("judge 1 0", 4, what -> x.judge(3, what), 14, 2, 1, 4);
            tell(x, 3, sort, 0, 1);
            Check.all("judge 0 1", 4, what -> x.judge(3, what), 17, 0, 0, 3);
        }
        BenchWithTails none = new BenchWithTails();
        none.sheet(0, 0, 0);
        Check.all("judge of none", 4, what -> none.judge(0, what), 0, 0, 0, 0);
    }

    private static void judgeRefuses() {
        BenchWithTails x = two();
        tell(x, 0, 0, 1, 0);
        for (int bad : new int[] {-1, 4, FAR[0], FAR[1]}) {
            Check.refused(x, "judge(" + bad + ", 0)", () -> x.judge(bad, 0), BAD);
            Check.refused(x, "judge(0, " + bad + ")", () -> x.judge(0, bad), BAD);
            Check.refused(x, "judge(1, " + bad + ")", () -> x.judge(1, bad), BAD);
        }
        Check.refused(x, "judge of a missing one", () -> x.judge(1, 0), MISSING);
        long[][] wrong = {{}, {0}, {0, 1, 2}, {0, 0}, {1, 1}, {0, 2}, {-1, 0}, {0, 4294967297L}, {1L << 32, 1},
            {0, Long.MIN_VALUE}, {0, Long.MAX_VALUE}};
        for (long[] row : wrong) {
            tell(x, 2, 0, row);
            for (int what = 0; what < 4; what++) {
                int w = what;
                Check.refused(x, "judge of no ORDER", () -> x.judge(2, w), STATE);
            }
        }
        tell(x, 2, 1, 4294967297L, 1L << 32);
        Check.due("ints are cut", x.judge(2, 0), 14);
        BenchWithTails none = new BenchWithTails();
        tell(none, 2, 0, 0);
        Check.due("judge of one of none", none.judge(2, 0), STATE);
    }

    private static void film() {
        BenchWithTails x = two();
        tell(x, 0, 1, 7, 7, 7);
        Check.due("film(0)", x.film(0), 2);
        Check.due("item(0, 0)", x.item(0, 0), 4);
        Check.due("item(0, 1)", x.item(0, 1), 2);
        Check.due("item(0, 2)", x.item(0, 2), BenchWithTails.NO);
        x.put(0, 0, 1L << 40);
        Check.due("they are longs", x.item(0, 0), 1L << 40);
        Check.due("film(3)", x.film(3), 2);
        Check.due("copy of longs to longs", x.copy(3, 0, 0, 0, 2), 2);
        x.go(5);
        Check.due("film(2)", x.film(2), 2);
        Check.due("a film leaves NOW as it is", x.bench(0), 5);
        for (int bad : new int[] {-1, 4, FAR[0], FAR[1]}) {
            Check.refused(x, "film(" + bad + ")", () -> x.film(bad), BAD);
        }
        BenchWithTails none = new BenchWithTails();
        Check.due("film of none", none.film(1), 0);
        Check.due("it is there", none.put(1, 0, 0), -12);
    }

    private static void drawn() {
        BenchWithTails x = two();
        x.go(3);
        String was = State.of(x);
        Check.due("drawn by 0 hours", x.drawn(77, 0), 14);
        // z is 12345, 12345 >>> 9 is 24; then z is -740551042, >>> 9 is 6942216.
        Check.due("12345", 0 * 1103515245 + 12345, 12345);
        int z = 12345 * 1103515245 + 12345;
        int later = (z >>> 9) % 31;
        BenchWithTails y = new BenchWithTails();
        y.job(0, 24, 5, 1);
        y.job(0, 2 + later, 2, 10);
        Check.due("drawn(0, 30)", x.drawn(0, 30), y.least(0));
        Check.due("the state after drawn", State.of(x), was);
        for (int bad : new int[] {-1, 31, FAR[0], FAR[1]}) {
            Check.refused(x, "drawn(1, " + bad + ")", () -> x.drawn(1, bad), BAD);
        }
        BenchWithTails none = new BenchWithTails();
        Check.due("drawn of none", none.drawn(5, 30), 0);
    }

    /** One JOB: how much later it COMES can be read from LEAST. */
    private static void drawnDraws() {
        BenchWithTails x = new BenchWithTails();
        x.job(0, 0, 1, 0);
        int[] seeds = {0, 1, -1, 3, 12345, Integer.MAX_VALUE, Integer.MIN_VALUE, 987654321, -987654321};
        for (int seed : seeds) {
            for (int n = 0; n <= 30; n++) {
                long z = (seed * 1103515245L + 12345L) & 0xffffffffL;
                Check.due("drawn(" + seed + ", " + n + ")", x.drawn(seed, n), (z >> 9) % (n + 1) + 1);
            }
        }
        x.set(0, 0, 3);
        x.set(0, 1, 60);
        Check.due("it COMES later, not its RELEASE", x.drawn(0, 30), 30 + 24 + 1 + 5);
    }

    private static void chance() {
        BenchWithTails x = new BenchWithTails();
        x.job(0, 0, 1, 0);
        int seed = Integer.MAX_VALUE - 2;
        for (int m = 1; m <= 8; m++) {
            for (int finish = 0; finish <= 32; finish++) {
                int hits = 0;
                for (int i = 0; i < m; i++) {
                    hits += x.drawn(seed + i, 30) <= finish ? 1 : 0;
                }
                int d = gcd(hits, m);
                Check.due("above", x.chance(seed, m, 30, finish, 0), hits / d);
                Check.due("below", x.chance(seed, m, 30, finish, 1), m / d);
            }
        }
        Check.due("none: 0 of 1", x.chance(seed, 8, 30, 0, 0), 0);
        Check.due("none: 0 of 1", x.chance(seed, 8, 30, 0, 1), 1);
        BenchWithTails two = two();
        Check.due("it is GREEDY that counts", two.chance(1, 4, 0, 16, 0), 0);
        Check.due("at most", two.chance(1, 4, 0, 17, 0), 1);
        Check.due("all: 1 of 1", two.chance(1, 4, 0, 17, 1), 1);
        BenchWithTails none = new BenchWithTails();
        Check.due("chance of none", none.chance(1, 6, 3, 0, 0), 1);
        Check.due("chance of none", none.chance(1, 6, 3, 0, 1), 1);
    }

    private static int gcd(int a, int b) {
        return b == 0 ? a : gcd(b, a % b);
    }

    private static void chanceRefuses() {
        BenchWithTails x = two();
        x.go(2);
        for (int far : FAR) {
            Check.refused(x, "chance m", () -> x.chance(1, far, 1, 1, 0), BAD);
            Check.refused(x, "chance n", () -> x.chance(1, 1, far, 1, 0), BAD);
            Check.refused(x, "chance finish", () -> x.chance(1, 1, 1, far, 0), BAD);
            Check.refused(x, "chance part", () -> x.chance(1, 1, 1, 1, far), BAD);
        }
        Check.refused(x, "chance m 0", () -> x.chance(1, 0, 1, 1, 0), BAD);
        Check.refused(x, "chance m 9", () -> x.chance(1, 9, 1, 1, 0), BAD);
        Check.refused(x, "chance n -1", () -> x.chance(1, 1, -1, 1, 0), BAD);
        Check.refused(x, "chance n 31", () -> x.chance(1, 1, 31, 1, 0), BAD);
        Check.refused(x, "chance finish -1", () -> x.chance(1, 1, 1, -1, 0), BAD);
        Check.refused(x, "chance finish 1000", () -> x.chance(1, 1, 1, 1000, 0), BAD);
        Check.refused(x, "chance part -1", () -> x.chance(1, 1, 1, 1, -1), BAD);
        Check.refused(x, "chance part 2", () -> x.chance(1, 1, 1, 1, 2), BAD);
        Check.refused(x, "chance, in thought", () -> x.chance(-5, 8, 30, 999, 0), 1);
    }
}
