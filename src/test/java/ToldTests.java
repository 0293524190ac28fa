/** Promises 21 to 24: judge, film, drawn, chance. */
public final class ToldTests {
    private static final int BAD = -2, STATE = -3, MISSING = -11, OUTSIDE = -12, OTHER = -13;
    private static final int MIN = Scenes.MIN, MAX = Scenes.MAX;

    private ToldTests() {
    }

    public static void main(String[] args) {
        judgeOfNoneOneAndEight();
        judgeNumbers();
        judgeOfNoOrder();
        judgeRefuses();
        filmOfNoneOneAndEight();
        filmTrulyBecomes();
        filmRefuses();
        drawnOfNoneOneAndEight();
        drawnWraps();
        drawnForEachJobAnew();
        drawnRefuses();
        chanceOfNone();
        chanceOfAllSeeds();
        chanceWraps();
        chanceInLowestTerms();
        chanceIsOfGreedy();
        chanceRefuses();
        inThought();
        Check.end("ToldTests");
    }

    // ---- promise 21: judge.

    private static void judgeIs(BenchWithTails x, long[] order, long... want) {
        for (int sort = 0; sort < 2; sort++) {
            for (int sheet = 0; sheet < 4; sheet += 3) {
                int s = sheet;
                Scenes.tell(x, sheet, sort, order);
                Check.all("judge of " + order.length, what -> x.judge(s, what), want);
            }
        }
    }

    private static long[] row(long... numbers) {
        return numbers;
    }

    private static void judgeOfNoneOneAndEight() {
        judgeIs(new BenchWithTails(), row(), 0, 0, 0, 0);
        judgeIs(Scenes.one(), row(0), 12, 7, 0, 0);
        judgeIs(Scenes.of("p0,1,0"), row(0), 1, 0, 0, 0);
        judgeIs(Scenes.eightAlike(), row(0, 1, 2, 3, 4, 5, 6, 7), 8, 0, 0, 7);
        judgeIs(Scenes.eightAlike(), row(7, 6, 5, 4, 3, 2, 1, 0), 8, 0, 4, 7);
        judgeIs(Scenes.eightGreatest(), row(7, 0, 1, 2, 3, 4, 5, 6), 383, 63, 7, 175);
    }

    private static void judgeNumbers() {
        judgeIs(Scenes.two(), row(1, 0), 14, 2, 1, 4);
        judgeIs(Scenes.two(), row(0, 1), 17, 0, 0, 3);
        // DAWN COMES at 9, COOLS 5. By GREEDY they BEGIN at 0, 5, 9.
        BenchWithTails x = Scenes.busy();
        judgeIs(x, row(1, 0, 2), 17, 2, 1, 4);
        judgeIs(x, row(2, 1, 0), 24, 9, 2, 14);
        judgeIs(x, row(0, 2, 1), 24, 4, 1, 10);
        judgeIs(x, row(0, 1, 2), 17, 2, 0, 3);
    }

    private static void judgeOfNoOrder() {
        long wide = 1L << 32;
        long[][] wrong = {{}, {0}, {0, 1}, {0, 1, 2, 0}, {0, 1, 2, 3}, {0, 0, 1}, {2, 1, 2}, {0, 1, 1}, {0, 1, 3},
            {3, 0, 1}, {-1, 0, 1}, {0, 1, 2 + wide}, {wide, 1, 2}, {0, 1, Long.MIN_VALUE}, {0, 1, Long.MAX_VALUE},
            {0, 1, BenchWithTails.NO}, {0, 1, MIN}, {0, 1, MAX}};
        for (long[] order : wrong) {
            for (int what = 0; what < 4; what++) {
                int w = what;
                Check.refused(() -> told(order, 0), "judge of no ORDER", x -> x.judge(2, w), STATE);
            }
        }
        Check.refused(() -> told(new long[40], 0), "judge of 40", x -> x.judge(2, 0), STATE);
        Check.refused(() -> told(row(0, 1, -1), 1), "judge of ints", x -> x.judge(2, 0), STATE);
        Check.due("ints are cut", told(row(wide, 1 - wide, 2 + wide), 1).judge(2, 0), 17);
        Check.refused(Scenes::full, "judge of 40 of eight", x -> x.judge(0, 0), STATE);
        Check.refused(Scenes::full, "judge of 0 of eight", x -> x.judge(2, 0), STATE);
        BenchWithTails none = new BenchWithTails();
        Scenes.tell(none, 2, 0, 0);
        Check.due("judge of one of none", none.judge(2, 0), STATE);
        BenchWithTails nine = Scenes.eightAlike();
        Scenes.tell(nine, 0, 0, 0, 1, 2, 3, 4, 5, 6, 7, 8);
        Check.due("judge of nine of eight", nine.judge(0, 0), STATE);
        Scenes.tell(nine, 0, 0, 0, 1, 2, 3, 4, 5, 6, 8);
        Check.due("judge of eight without 7", nine.judge(0, 0), STATE);
    }

    private static BenchWithTails told(long[] order, int sort) {
        BenchWithTails x = Scenes.busy();
        Scenes.tell(x, 2, sort, order);
        return x;
    }

    private static void judgeRefuses() {
        for (int sheet : new int[] {-1, 4, MIN, MAX}) {
            Check.refused(Scenes::busy, "judge(" + sheet + ", 0)", x -> x.judge(sheet, 0), BAD);
        }
        for (int what : new int[] {-1, 4, MIN, MAX}) {
            Check.refused(Scenes::busy, "judge of an ORDER, " + what, x -> x.judge(0, what), BAD);
            Check.refused(Scenes::busy, "judge of none, " + what, x -> x.judge(1, what), BAD);
            Check.refused(Scenes::busy, "judge of a missing one, " + what, x -> x.judge(2, what), BAD);
        }
        for (int what = 0; what < 4; what++) {
            int w = what;
            Check.refused(Scenes::busy, "judge of a missing one", x -> x.judge(2, w), MISSING);
            Check.refused(BenchWithTails::new, "judge of a missing one of none", x -> x.judge(0, w), MISSING);
            Check.refused(Scenes::busy, "judge of no ORDER", x -> x.judge(1, w), STATE);
        }
    }

    // ---- promise 22: film.

    private static void filmIs(BenchWithTails x, int sheet, long... want) {
        Check.due("film", x.film(sheet), want.length);
        Check.all("item of a film", i -> x.item(sheet, i), want);
        Check.due("item behind a film", x.item(sheet, want.length), BenchWithTails.NO);
        Check.due("put behind a film", x.put(sheet, want.length, 1), OUTSIDE);
    }

    private static void filmOfNoneOneAndEight() {
        filmIs(new BenchWithTails(), 1);
        filmIs(Scenes.one(), 0, 7);
        filmIs(Scenes.two(), 0, 4, 2);
        filmIs(Scenes.eightAlike(), 3, 0, 1, 2, 3, 4, 5, 6, 7);
        filmIs(Scenes.eightGreatest(), 3, 63, 88, 113, 138, 163, 188, 213, 238);
        filmIs(Scenes.of("p0,1,0;p0,1,1;p0,1,2;p0,1,3;p0,1,4;p0,1,5;p0,1,6;p0,1,7"), 2, 7, 6, 5, 4, 3, 2, 1, 0);
        // The FIRST one of the LEAST ORDERS, not that of GREEDY.
        filmIs(Scenes.of("p0,1,0;p0,2,0;p0,3,0"), 2, 0, 1, 3);
    }

    private static void filmTrulyBecomes() {
        for (int sheet = 0; sheet < 4; sheet++) {
            BenchWithTails x = Scenes.busy();
            filmIs(x, sheet, 0, 5, 9);
            x.put(sheet, 0, 1L << 40);
            Check.due("they are longs", x.item(sheet, 0), 1L << 40);
            Check.due("NOW stays", x.bench(0), 4);
        }
        BenchWithTails none = new BenchWithTails();
        none.sheet(0, 1, 40);
        none.film(0);
        none.sheet(1, 1, 0);
        Check.due("a film of none is there, of longs", none.copy(0, 0, 1, 0, 0), OTHER);
        BenchWithTails x = Scenes.full();
        Check.due("film over 40 ints", x.film(1), 8);
        Check.due("the item behind them", x.item(1, 8), BenchWithTails.NO);
        x.sheet(1, 0, 40);
        Check.due("the rest is 0", x.item(1, 39), 0);
    }

    private static void filmRefuses() {
        for (int sheet : new int[] {-1, 4, MIN, MAX}) {
            Check.refused(Scenes::busy, "film(" + sheet + ")", x -> x.film(sheet), BAD);
            Check.refused(BenchWithTails::new, "film(" + sheet + ") of none", x -> x.film(sheet), BAD);
        }
    }

    // ---- promise 23: drawn.

    /** How much later the k-th JOB COMES, by longs alone. */
    private static int later(int seed, int n, int k) {
        long z = seed & 0xffffffffL;
        for (int i = 0; i <= k; i++) {
            z = z * 1103515245L + 12345L & 0xffffffffL;
        }
        return (int) ((z >> 9) % (n + 1));
    }

    private static void drawnOfNoneOneAndEight() {
        Check.due("drawn of none", new BenchWithTails().drawn(5, 30), 0);
        Check.due("by 0 hours", Scenes.two().drawn(77, 0), 14);
        Check.due("by 0 hours, eight", Scenes.eightGreatest().drawn(77, 0), 383);
        // z is 12345, 12345 >>> 9 is 24.
        BenchWithTails x = Scenes.of("p0,1,0");
        Check.due("drawn(0, 30)", x.drawn(0, 30), 25);
        Check.due("drawn(0, 24)", x.drawn(0, 24), 25);
        Check.due("drawn(0, 23)", x.drawn(0, 23), 1);
        Check.due("drawn(0, 22)", x.drawn(0, 22), 2);
        Check.due("drawn(0, 1)", x.drawn(0, 1), 1);
        Check.due("it COMES later, not its RELEASE", Scenes.of("d60,1,0").drawn(0, 30), 30 + 24 + 1 + 5);
        Check.due("the latest", Scenes.of("m60,20,60").drawn(0, 30), 63 + 24 + 25 + 120);
    }

    /** One JOB: how much later it COMES can be read from LEAST. */
    private static void drawnWraps() {
        BenchWithTails x = Scenes.of("p0,1,0");
        int[] seeds = {0, 1, -1, 3, 12345, MAX, MIN, MAX - 1, MIN + 1, 987654321, -987654321};
        for (int seed : seeds) {
            for (int n = 0; n <= 30; n++) {
                Check.due("drawn(" + seed + ", " + n + ")", x.drawn(seed, n), later(seed, n, 0) + 1);
            }
        }
        // z is -2147471303, z >>> 9 is 4194328, which is 28 more than 31 times 135300.
        Check.due("drawn of z below 0", x.drawn(MIN, 30), 28 + 1);
    }

    private static void drawnForEachJobAnew() {
        for (int seed : new int[] {0, 7, -7, MAX, MIN}) {
            for (int n : new int[] {1, 9, 29, 30}) {
                BenchWithTails x = Scenes.of("p0,5,9;p2,2,10;p9,3,0;p4,4,4;p1,6,20;p0,1,7;p8,2,2;p3,3,30");
                int drawn = x.drawn(seed, n);
                for (int job = 0; job < 8; job++) {
                    x.set(job, 1, x.told(job, 1) + later(seed, n, job));
                }
                Check.due("drawn(" + seed + ", " + n + ")", drawn, x.least(0));
            }
        }
    }

    private static void drawnRefuses() {
        for (int n : new int[] {-1, 31, MIN, MAX}) {
            Check.refused(Scenes::busy, "drawn(1, " + n + ")", x -> x.drawn(1, n), BAD);
            Check.refused(BenchWithTails::new, "drawn(1, " + n + ") of none", x -> x.drawn(1, n), BAD);
        }
    }

    // ---- promise 24: chance.

    private static void chanceIs(String what, BenchWithTails x, int[] told, int above, int below) {
        Check.due(what + ", above", x.chance(told[0], told[1], told[2], told[3], 0), above);
        Check.due(what + ", below", x.chance(told[0], told[1], told[2], told[3], 1), below);
    }

    private static int[] told(int seed, int m, int n, int finish) {
        return new int[] {seed, m, n, finish};
    }

    private static void chanceOfNone() {
        chanceIs("of none all", new BenchWithTails(), told(1, 6, 3, 0), 1, 1);
        chanceIs("the most of all", Scenes.eightGreatest(), told(1, 8, 30, 999), 1, 1);
        chanceIs("the least of all", Scenes.eightGreatest(), told(1, 1, 0, 0), 0, 1);
        chanceIs("the least of all", Scenes.eightGreatest(), told(1, 8, 30, 0), 0, 1);
    }

    private static int gcd(int a, int b) {
        return b == 0 ? a : gcd(b, a % b);
    }

    /** One JOB: its GREEDY FINISH is one more than how much later it COMES. */
    private static void chanceOfAllSeeds() {
        for (int seed : new int[] {0, 5, -3, MAX - 2, MAX, MIN}) {
            for (int m = 1; m <= 8; m++) {
                BenchWithTails x = Scenes.of("p0,1,0");
                for (int finish = 0; finish <= 32; finish++) {
                    int hits = 0;
                    for (int i = 0; i < m; i++) {
                        hits += later(seed + i, 30, 0) + 1 <= finish ? 1 : 0;
                    }
                    int d = gcd(hits, m);
                    chanceIs("chance", x, told(seed, m, 30, finish), hits / d, m / d);
                }
            }
        }
    }

    private static void chanceWraps() {
        BenchWithTails x = Scenes.of("p0,1,0");
        int first = later(MAX, 30, 0) + 1;
        int second = later(MIN, 30, 0) + 1;
        Check.due("the draws of both are unlike", first == second ? 1 : 0, 0);
        chanceIs("SEED and one more, one of both", x, told(MAX, 2, 30, Math.min(first, second)), 1, 2);
        chanceIs("SEED and one more, both", x, told(MAX, 2, 30, Math.max(first, second)), 1, 1);
        chanceIs("SEED and one more, none", x, told(MAX, 2, 30, Math.min(first, second) - 1), 0, 1);
    }

    /** Each number of hits of each m: 0 of 1, 1 of 8, 1 of 4, 3 of 8, .. 1 of 1. */
    private static void chanceInLowestTerms() {
        boolean[][] seen = new boolean[9][9];
        for (int m = 1; m <= 8; m++) {
            for (int seed = 0; seed < 12; seed++) {
                BenchWithTails x = Scenes.of("p0,1,0");
                for (int finish = 1; finish <= 31; finish++) {
                    int hits = 0;
                    for (int i = 0; i < m; i++) {
                        hits += later(seed + i, 30, 0) < finish ? 1 : 0;
                    }
                    seen[m][hits] = true;
                    Check.due(hits + " of " + m, x.chance(seed, m, 30, finish, 0) * m,
                            x.chance(seed, m, 30, finish, 1) * hits);
                    Check.due(hits + " of " + m + " in lowest terms",
                            gcd(x.chance(seed, m, 30, finish, 0), x.chance(seed, m, 30, finish, 1)), 1);
                }
            }
            for (int hits = 0; hits <= m; hits++) {
                Check.due(hits + " of " + m + " was there", seen[m][hits] ? 1 : 0, 1);
            }
        }
    }

    private static void chanceIsOfGreedy() {
        // GREEDY FINISH is 17, LEAST 14.
        chanceIs("below it", Scenes.two(), told(1, 4, 0, 16), 0, 1);
        chanceIs("at most", Scenes.two(), told(1, 4, 0, 17), 1, 1);
        chanceIs("above it", Scenes.two(), told(1, 4, 0, 18), 1, 1);
    }

    private static void chanceRefuses() {
        for (int far : new int[] {-1, 1000, MIN, MAX}) {
            Check.refused(Scenes::busy, "chance m " + far, x -> x.chance(1, far, 1, 1, 0), BAD);
            Check.refused(Scenes::busy, "chance n " + far, x -> x.chance(1, 1, far, 1, 0), BAD);
            Check.refused(Scenes::busy, "chance finish " + far, x -> x.chance(1, 1, 1, far, 0), BAD);
            Check.refused(Scenes::busy, "chance part " + far, x -> x.chance(1, 1, 1, 1, far), BAD);
            Check.refused(BenchWithTails::new, "chance of none " + far, x -> x.chance(1, 1, 1, far, 0), BAD);
        }
        Check.refused(Scenes::busy, "chance m 0", x -> x.chance(1, 0, 1, 1, 0), BAD);
        Check.refused(Scenes::busy, "chance m 9", x -> x.chance(1, 9, 1, 1, 1), BAD);
        Check.refused(Scenes::busy, "chance n 31", x -> x.chance(1, 1, 31, 1, 0), BAD);
        Check.refused(Scenes::busy, "chance part 2", x -> x.chance(1, 1, 1, 1, 2), BAD);
    }

    // ---- promises 21 to 24 together.

    private static void inThought() {
        for (int what = 0; what < 4; what++) {
            int w = what;
            Check.changesNothing(Scenes::busy, "judge", x -> x.judge(0, w));
        }
        Check.changesNothing(Scenes::busy, "drawn", x -> x.drawn(5, 30));
        Check.changesNothing(Scenes::full, "drawn", x -> x.drawn(5, 30));
        Check.changesNothing(Scenes::busy, "chance", x -> x.chance(-5, 8, 30, 999, 0));
        Check.changesNothing(Scenes::full, "chance", x -> x.chance(-5, 8, 30, 999, 1));
        BenchWithTails x = Scenes.two();
        x.least(0);
        x.drawn(5, 30);
        x.chance(5, 8, 30, 99, 0);
        Check.all("least behind them", what -> x.least(what), 14, 2, 2);
        Check.due("greedy behind them", x.greedy(-1, 0), 17);
    }
}
