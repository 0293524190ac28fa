/** Promises 9 to 14: greedy, breaking, critical, branch, bound, strongest. */
public final class RowTests {
    private static final int NONE = -1, BAD = -2, STATE = -3, OUTSIDE = -12;
    private static final int MIN = Scenes.MIN, MAX = Scenes.MAX;

    private RowTests() {
    }

    public static void main(String[] args) {
        greedyOfNoneOneAndEight();
        greedyChooses();
        greedyWaits();
        idle();
        greedyRefuses();
        breakingOfNoneOneAndEight();
        brokenOffAsSoonAsOneComes();
        brokenOffMoreThanOnce();
        goesOnLater();
        breakingRefuses();
        criticalOfOneAndEight();
        last();
        block();
        bar();
        criticalRefuses();
        branchNumbers();
        branchIsInThought();
        branchRefuses();
        boundNumbers();
        boundRefuses();
        strongestOfOneAndEight();
        strongestOfAlikeOnes();
        strongestRefuses();
        foundAnew();
        inThought();
        Check.end("RowTests");
    }

    private static BenchWithTails of(String items) {
        return Scenes.of(items);
    }

    /** Who begins, one behind the other, and at which hours. */
    private static void greedyRow(String items, long[] who, long[] hours) {
        BenchWithTails x = of(items);
        Check.all("greedy(k, 0) of " + items, k -> x.greedy(k, 0), who);
        Check.all("greedy(k, 1) of " + items, k -> x.greedy(k, 1), hours);
    }

    private static long[] row(long... numbers) {
        return numbers;
    }

    // ---- promise 9: greedy.

    private static void greedyOfNoneOneAndEight() {
        BenchWithTails none = new BenchWithTails();
        Check.due("FINISH of none", none.greedy(-1, 0), 0);
        Check.due("IDLE of none", none.greedy(-1, 1), 0);
        Check.due("the first of none", none.greedy(0, 0), OUTSIDE);
        Check.due("when it begins", none.greedy(0, 1), OUTSIDE);
        BenchWithTails one = Scenes.one();
        Check.due("FINISH of one", one.greedy(-1, 0), 12);
        Check.due("IDLE of one", one.greedy(-1, 1), 7);
        Check.due("the first of one", one.greedy(0, 0), 0);
        Check.due("when it begins", one.greedy(0, 1), 7);
        Check.due("the second of one", one.greedy(1, 0), OUTSIDE);
        BenchWithTails eight = Scenes.eightGreatest();
        Check.due("FINISH of eight", eight.greedy(-1, 0), 63 + 8 * 25 + 120);
        Check.due("IDLE of eight", eight.greedy(-1, 1), 63);
        Check.all("who, of eight", k -> eight.greedy(k, 0), 0, 1, 2, 3, 4, 5, 6, 7);
        Check.all("when, of eight", k -> eight.greedy(k, 1), 63, 88, 113, 138, 163, 188, 213, 238);
        Check.due("the ninth of eight", eight.greedy(8, 0), OUTSIDE);
        Check.due("the ninth of eight", eight.greedy(8, 1), OUTSIDE);
        BenchWithTails least = of("p0,1,0");
        Check.due("FINISH of the least", least.greedy(-1, 0), 1);
        Check.due("IDLE of the least", least.greedy(-1, 1), 0);
    }

    private static void greedyChooses() {
        greedyRow("p0,9,3;p0,1,4", row(1, 0), row(0, 1));
        greedyRow("p0,2,3;p0,4,3;p0,3,3", row(1, 2, 0), row(0, 4, 7));
        greedyRow("p0,2,3;p0,2,3;p0,2,3", row(0, 1, 2), row(0, 2, 4));
        // What it COOLS, not its TAIL; what it TAKES, not its WORK; when it COMES, not its RELEASE.
        greedyRow("p0,9,4;r0,1,0", row(1, 0), row(0, 1));
        greedyRow("p0,4,0;h0,4,0", row(1, 0), row(0, 5));
        greedyRow("p1,4,0;d3,4,0", row(1, 0), row(1, 5));
        greedyRow("p2,4,0;m0,4,0", row(0, 1), row(2, 6));
    }

    private static void greedyWaits() {
        // One that COMES as the bench falls free is there; one that COMES an hour later isn't.
        greedyRow("p0,5,0;p1,2,3;p5,2,4", row(0, 2, 1), row(0, 5, 7));
        greedyRow("p0,5,0;p1,2,3;p6,2,4", row(0, 1, 2), row(0, 5, 7));
        // Nobody is there: the next one, though another one COMES soon that COOLS longer.
        greedyRow("p9,2,0;p5,2,0;p6,1,60", row(1, 2, 0), row(5, 7, 9));
        greedyRow("p9,2,0;p5,1,0;p9,2,1;p9,3,1", row(1, 3, 2, 0), row(5, 9, 12, 14));
        greedyRow("p0,1,0;p60,1,0", row(0, 1), row(0, 60));
    }

    private static void idle() {
        Check.due("from hour 0 on", of("p10,3,0").greedy(-1, 1), 10);
        Check.due("two gaps", of("p10,3,0;p20,4,0").greedy(-1, 1), 17);
        Check.due("no gap", of("p10,3,0;p13,4,0").greedy(-1, 1), 10);
        Check.due("one hour", of("p0,3,0;p4,4,60").greedy(-1, 1), 1);
        Check.due("not while the last one cools", of("p0,3,60").greedy(-1, 1), 0);
    }

    private static void greedyRefuses() {
        for (int what : new int[] {-1, 2, MIN, MAX}) {
            for (int k : new int[] {-1, 0, -2, 3, MIN, MAX}) {
                Check.refused(Scenes::busy, "greedy(" + k + ", " + what + ")", x -> x.greedy(k, what), BAD);
            }
            Check.refused(BenchWithTails::new, "greedy(0, " + what + ") of none", x -> x.greedy(0, what), BAD);
        }
        for (int what = 0; what < 2; what++) {
            int w = what;
            for (int k : new int[] {-2, 3, 8, MIN, MAX}) {
                Check.refused(Scenes::busy, "greedy(" + k + ", " + what + ")", x -> x.greedy(k, w), OUTSIDE);
            }
            Check.refused(Scenes::full, "greedy(8, " + what + ")", x -> x.greedy(8, w), OUTSIDE);
            Check.refused(BenchWithTails::new, "greedy(0, " + what + ") of none", x -> x.greedy(0, w), OUTSIDE);
        }
    }

    // ---- promise 10: breaking.

    private static void breakingIs(String items, int finish, int times) {
        Check.all("breaking of " + items, what -> of(items).breaking(what), finish, times);
    }

    private static void breakingOfNoneOneAndEight() {
        Check.all("breaking of none", what -> new BenchWithTails().breaking(what), 0, 0);
        breakingIs("p7,3,2", 12, 0);
        breakingIs("p0,1,0", 1, 0);
        Check.all("breaking of eight alike", what -> Scenes.eightAlike().breaking(what), 8, 0);
        Check.all("breaking of eight", what -> Scenes.eightGreatest().breaking(what), 383, 0);
        // Each next one breaks the one ahead off.
        breakingIs("p0,20,0;p1,20,1;p2,20,2;p3,20,3;p4,20,4;p5,20,5;p6,20,6;p7,20,7", 160, 7);
        breakingIs("p0,20,0;p1,1,1;p3,1,1;p5,1,1;p7,1,1;p9,1,1;p11,1,1;p13,1,1", 27, 7);
    }

    private static void brokenOffAsSoonAsOneComes() {
        breakingIs("p0,5,1;p2,2,10", 14, 1);
        breakingIs("p0,5,8;p2,2,9", 15, 1);
        breakingIs("p0,5,9;p2,2,9", 16, 0);
        breakingIs("p0,5,9;p2,9,9", 23, 0);
        breakingIs("p0,5,9;p2,2,8", 15, 0);
        // In its last hour, as it ENDS, behind it.
        breakingIs("p0,5,1;p4,2,9", 15, 1);
        breakingIs("p0,5,1;p5,2,9", 16, 0);
        breakingIs("p0,5,1;p6,2,9", 17, 0);
        // In its first hour; one that COMES with it is chosen first.
        breakingIs("p0,5,1;p1,2,9", 12, 1);
        breakingIs("p0,5,1;p0,2,9", 11, 0);
        // It is what they COOL, and when they COME, that breaks off.
        breakingIs("p0,5,5;r2,2,0", 12, 0);
        breakingIs("p0,5,4;r2,2,0", 11, 1);
        breakingIs("p0,5,4;m2,2,3", 13, 0);
        breakingIs("p0,6,4;m2,2,3", 13, 1);
    }

    private static void brokenOffMoreThanOnce() {
        breakingIs("p0,9,0;p1,1,3;p3,1,3;p5,1,3", 12, 3);
        breakingIs("p0,9,1;p2,5,5;p4,1,20", 25, 2);
        // Two COME at once: the one is broken off once.
        breakingIs("p0,9,1;p2,5,5;p2,1,20", 23, 1);
        // The one broken off twice goes on behind those that broke it off.
        breakingIs("p0,4,0;p1,2,5;p4,2,5", 11, 2);
    }

    private static void goesOnLater() {
        // 0 is broken off with 1 hour left; TAKING 6 in all it still goes ahead of 2, which TAKES 5.
        breakingIs("p0,6,4;p5,2,30;p6,5,4;p8,1,6", 37, 1);
        breakingIs("p0,6,4;p5,2,9;p6,5,4", 17, 1);
        // TAKING as long in all, the least number; TAKING longer, the other one.
        Check.due("the one that TAKES longer", of("p0,6,4;p5,2,9;p6,7,4").breaking(0), 19);
        breakingIs("p1,3,4;p2,1,9;p2,3,4", 12, 1);
        // With as many hours left as it had: 0-2, then 5-8.
        breakingIs("p0,5,3;p2,3,9", 14, 1);
    }

    private static void breakingRefuses() {
        for (int what : new int[] {-1, 2, MIN, MAX}) {
            Check.refused(Scenes::busy, "breaking(" + what + ")", x -> x.breaking(what), BAD);
            Check.refused(BenchWithTails::new, "breaking(" + what + ") of none", x -> x.breaking(what), BAD);
        }
    }

    // ---- promise 11: critical.

    private static void criticalIs(String items, long... want) {
        Check.all("critical of " + items, what -> of(items).critical(what), want);
    }

    private static void criticalOfOneAndEight() {
        criticalIs("p7,3,2", 0, 0, NONE, 0, 1);
        criticalIs("p0,1,0", 0, 0, NONE, 0, 1);
        criticalIs("p0,5,1;p2,2,10", 1, 0, 0, 2, 2);
        Check.all("critical of eight alike", what -> Scenes.eightAlike().critical(what), 7, 0, NONE, 0, 8);
        Check.all("critical of eight", what -> Scenes.eightGreatest().critical(what), 7, 0, NONE, 0, 8);
        // 0 goes first, all others are BEHIND it.
        criticalIs("p0,1,0;p1,1,1;p1,1,1;p1,1,1;p1,1,1;p1,1,1;p1,1,1;p1,1,1", 7, 0, 0, 254, 8);
    }

    private static void last() {
        // 0: 0-2 (5), 1: 2-5 (2): both have FINISH 7; then only one has.
        criticalIs("p0,2,5;p0,3,2", 1, 0, NONE, 0, 2);
        criticalIs("p0,2,5;p0,3,1", 0, 0, NONE, 0, 1);
        criticalIs("p0,2,5;p0,3,3", 1, 0, NONE, 0, 2);
        // It is who BEGINS last, not the greatest number.
        criticalIs("p0,3,2;p0,2,5", 0, 1, NONE, 0, 2);
    }

    private static void block() {
        // An hour without one parts it; none does not.
        criticalIs("p0,2,0;p3,2,0;p3,1,9;p4,4,3", 2, 2, NONE, 0, 1);
        criticalIs("p0,2,9;p3,2,9", 1, 1, NONE, 0, 1);
        criticalIs("p0,2,9;p2,2,9", 1, 0, NONE, 0, 2);
        criticalIs("p1,1,9;p2,2,9;p9,1,5;p10,1,9", 3, 2, 2, 8, 2);
        // 0: 0-4, 1: 4-8, 2: 8-11 (20), 3: 11-12: the one behind LAST is not of the BLOCK.
        criticalIs("p0,4,0;p1,4,9;p2,3,9;p2,1,0", 2, 0, 0, 6, 3);
    }

    private static void bar() {
        // 0: 0-2, 1: 2-4, 3: 4-8 (9), 2: 8-9 (9): LAST is 2, BAR is 1, BEHIND are 3 and 2.
        criticalIs("p0,2,0;p2,2,0;p3,1,9;p4,4,9", 2, 0, 1, 12, 4);
        // As 1 COOLS as long as LAST, BAR is 0.
        criticalIs("p0,2,0;p2,2,9;p3,1,9;p4,4,9", 2, 0, 0, 14, 4);
        criticalIs("p0,2,0;p2,2,8;p3,1,9;p4,4,9", 2, 0, 1, 12, 4);
        criticalIs("p0,2,0;p2,2,9;p3,1,0;p4,4,9", 3, 0, 0, 10, 3);
        // One that COOLS shorter, but isn't of the BLOCK, is no BAR.
        criticalIs("p0,2,0;p3,2,9;p3,1,9", 2, 1, NONE, 0, 2);
        // One that COOLS longer than LAST is BEHIND too.
        criticalIs("p0,5,0;p1,1,9;p1,6,5", 2, 0, 0, 6, 3);
    }

    private static void criticalRefuses() {
        for (int what : new int[] {-1, 5, MIN, MAX}) {
            Check.refused(Scenes::busy, "critical(" + what + ")", x -> x.critical(what), BAD);
            Check.refused(BenchWithTails::new, "critical(" + what + ") of none", x -> x.critical(what), BAD);
        }
        for (int what = 0; what < 5; what++) {
            int w = what;
            Check.refused(BenchWithTails::new, "critical of none", x -> x.critical(w), STATE);
        }
    }

    // ---- promise 12: branch.

    private static void branchIs(String items, int side, long... want) {
        Check.all("branch(" + side + ") of " + items, what -> of(items).branch(side, what), want);
    }

    private static void branchNumbers() {
        branchIs("p0,5,1;p2,2,10", 0, 17, 17, 12);
        branchIs("p0,5,1;p2,2,10", 1, 14, 14, 4);
        // Two BEHIND: all that they TAKE counts, and the hour at which the first of them COMES.
        branchIs("p0,4,0;p1,4,9;p2,3,9", 0, 20, 20, 4 + 3 + 9);
        branchIs("p0,4,0;p1,4,9;p2,3,9", 1, 17, 17, 1 + 4 + 3);
        // It is what LAST COOLS, not what another one BEHIND does; the least hour, not that of LAST.
        branchIs("p0,5,0;p2,1,9;p1,6,5", 0, 17, 17, 1 + 6 + 5);
        branchIs("p0,5,0;p2,1,9;p1,6,5", 1, 17, 13, 1 + 1 + 6);
        branchIs("p0,5,0;p1,1,9;p2,6,5", 1, 13, 13, 1 + 1 + 6);
        // 0: 0-2 (5), 2: 2-4 (5), 1: 4-5 (7); if it may be BROKEN OFF, 1: 3-4 (6), 2: 2-3, 4-5 (6).
        branchIs("p0,2,0;p3,1,2;p0,2,1", 0, 7, 6, 1 + 2);
    }

    private static void branchIsInThought() {
        for (int side = 0; side < 2; side++) {
            for (int what = 0; what < 3; what++) {
                int s = side;
                int w = what;
                Check.changesNothing(Scenes::busy, "branch", x -> x.branch(s, w));
            }
        }
        BenchWithTails x = Scenes.two();
        x.branch(1, 0);
        Check.due("greedy behind branch", x.greedy(-1, 0), 17);
        Check.due("breaking behind branch", x.breaking(0), 14);
        Check.due("branch(0, 2) behind branch", x.branch(0, 2), 12);
    }

    private static void branchRefuses() {
        for (int bad : new int[] {-1, 2, MIN, MAX}) {
            Check.refused(Scenes::busy, "branch(" + bad + ", 0)", x -> x.branch(bad, 0), BAD);
            Check.refused(Scenes::one, "branch(" + bad + ", 0) without a BAR", x -> x.branch(bad, 0), BAD);
            Check.refused(BenchWithTails::new, "branch(" + bad + ", 0) of none", x -> x.branch(bad, 0), BAD);
        }
        for (int bad : new int[] {-1, 3, MIN, MAX}) {
            Check.refused(Scenes::busy, "branch(0, " + bad + ")", x -> x.branch(0, bad), BAD);
            Check.refused(Scenes::busy, "branch(1, " + bad + ")", x -> x.branch(1, bad), BAD);
            Check.refused(Scenes::one, "branch(1, " + bad + ") without a BAR", x -> x.branch(1, bad), BAD);
            Check.refused(BenchWithTails::new, "branch(1, " + bad + ") of none", x -> x.branch(1, bad), BAD);
        }
        for (int side = 0; side < 2; side++) {
            for (int what = 0; what < 3; what++) {
                int s = side;
                int w = what;
                Check.refused(Scenes::one, "branch without a BAR", x -> x.branch(s, w), STATE);
                Check.refused(Scenes::eightAlike, "branch without a BAR", x -> x.branch(s, w), STATE);
                Check.refused(BenchWithTails::new, "branch of none", x -> x.branch(s, w), STATE);
            }
        }
    }

    // ---- promise 13: bound.

    private static void boundNumbers() {
        BenchWithTails x = of("p0,5,1;p2,2,10");
        Check.due("bound(1)", x.bound(1), 6);
        Check.due("bound(2)", x.bound(2), 14);
        Check.due("bound(3)", x.bound(3), 8);
        Check.due("bound of one", Scenes.one().bound(1), 12);
        Check.due("the least", of("p0,1,0").bound(1), 1);
        Check.due("the greatest", Scenes.eightGreatest().bound(255), 63 + 200 + 120);
        BenchWithTails eight = of("p9,1,9;p8,2,8;p7,3,7;p6,4,6;p5,5,5;p4,6,4;p3,7,3;d5,8,2");
        Check.due("bound(255)", eight.bound(255), 2 + 36 + 3);
        Check.due("bound(254)", eight.bound(254), 2 + 35 + 3);
        Check.due("bound(127)", eight.bound(127), 3 + 28 + 3);
        Check.due("bound(128)", eight.bound(128), 2 + 8 + 7);
        Check.due("bound(129)", eight.bound(129), 2 + 9 + 7);
        Check.due("bound(85)", eight.bound(85), 3 + 16 + 3);
    }

    private static void boundRefuses() {
        for (int set : new int[] {0, 8, 9, 15, 16, 256, -1, -2, MIN, MIN + 1, MAX}) {
            Check.refused(Scenes::busy, "bound(" + set + ")", x -> x.bound(set), BAD);
        }
        for (int set : new int[] {0, 256, 257, 511, -1, -256, MIN, MAX}) {
            Check.refused(Scenes::full, "bound(" + set + ")", x -> x.bound(set), BAD);
        }
        for (int set : new int[] {0, 1, 2, -1, MIN, MAX}) {
            Check.refused(BenchWithTails::new, "bound(" + set + ") of none", x -> x.bound(set), BAD);
        }
    }

    // ---- promise 14: strongest.

    private static void strongestIs(String items, long... want) {
        Check.all("strongest of " + items, what -> of(items).strongest(what), want);
    }

    private static void strongestOfOneAndEight() {
        strongestIs("p7,3,2", 1, 12);
        strongestIs("p0,1,0", 1, 1);
        strongestIs("p0,5,1;p2,2,10", 2, 14);
        Check.all("of eight alike all", what -> Scenes.eightAlike().strongest(what), 255, 8);
        Check.all("of eight all", what -> Scenes.eightGreatest().strongest(what), 255, 383);
        strongestIs("p0,1,0;p0,1,0;p0,1,0;p0,1,0;p0,1,0;p0,1,0;p0,1,0;p0,1,9", 128, 10);
        strongestIs("p0,2,3;p0,2,3;p9,1,0;p1,10,3", 11, 17);
    }

    private static void strongestOfAlikeOnes() {
        // Of fewer JOBS: {1} and {0, 1}; {2} and {0, 1}; {3} and {0, 1}; {3} and {0, 1, 2}; {0} and {1, 2}.
        strongestIs("p0,1,4;p0,1,5", 2, 6);
        strongestIs("p2,2,0;p3,1,0;p0,1,4", 4, 5);
        strongestIs("p4,2,1;p5,2,0;p0,1,3;p1,2,5", 8, 8);
        strongestIs("p2,4,0;p4,1,1;p2,1,1;p0,1,7", 8, 8);
        strongestIs("p3,1,0;p0,1,2;p0,1,2", 1, 4);
        // As many JOBS: {0} and {1}; {1, 2} and {0, 3}.
        strongestIs("p5,1,0;p0,1,5", 1, 6);
        strongestIs("p0,1,5;p5,1,0", 1, 6);
        strongestIs("p1,4,9;p9,4,1;p8,2,4;p3,1,9", 6, 15);
    }

    private static void strongestRefuses() {
        for (int what : new int[] {-1, 2, MIN, MAX}) {
            Check.refused(Scenes::busy, "strongest(" + what + ")", x -> x.strongest(what), BAD);
            Check.refused(BenchWithTails::new, "strongest(" + what + ") of none", x -> x.strongest(what), BAD);
        }
        Check.refused(BenchWithTails::new, "strongest(0) of none", x -> x.strongest(0), STATE);
        Check.refused(BenchWithTails::new, "strongest(1) of none", x -> x.strongest(1), STATE);
    }

    // ---- promises 9 to 14 together.

    /** The same object once more, and then with other JOBS: what was found ahead of it does not count. */
    private static void foundAnew() {
        BenchWithTails x = of("p0,2,0;p2,2,0;p3,1,9;p4,4,9");
        for (int round = 0; round < 2; round++) {
            Check.all("greedy", k -> x.greedy(k, 0), 0, 1, 3, 2);
            Check.all("breaking", what -> x.breaking(what), 17, 1);
            Check.all("critical", what -> x.critical(what), 2, 0, 1, 12, 4);
            Check.all("branch(0)", what -> x.branch(0, what), 18, 18, 14);
            Check.all("branch(1)", what -> x.branch(1, what), 17, 17, 8);
            Check.all("strongest", what -> x.strongest(what), 8, 17);
        }
        x.set(1, 3, 9);
        Check.all("greedy after set", k -> x.greedy(k, 0), 0, 1, 3, 2);
        Check.all("breaking after set", what -> x.breaking(what), 18, 0);
        Check.all("critical after set", what -> x.critical(what), 2, 0, 0, 14, 4);
        x.set(2, 3, 0);
        Check.all("greedy after set", k -> x.greedy(k, 0), 0, 1, 3, 2);
        Check.all("critical after set", what -> x.critical(what), 3, 0, 0, 10, 3);
        x.set(0, 3, 9);
        Check.all("critical after set", what -> x.critical(what), 3, 0, NONE, 0, 3);
        Check.due("branch after set", x.branch(0, 0), STATE);
        x.drop(1);
        Check.all("greedy after drop", k -> x.greedy(k, 0), 0, 1, 2, OUTSIDE);
        Check.all("critical after drop", what -> x.critical(what), 2, 1, 1, 4, 2);
    }

    private static void inThought() {
        for (int number = 0; number < 2; number++) {
            int what = number;
            Check.changesNothing(Scenes::busy, "greedy", x -> x.greedy(-1, what));
            Check.changesNothing(Scenes::busy, "greedy", x -> x.greedy(2, what));
            Check.changesNothing(Scenes::busy, "breaking", x -> x.breaking(what));
            Check.changesNothing(Scenes::busy, "strongest", x -> x.strongest(what));
        }
        for (int number = 0; number < 5; number++) {
            int what = number;
            Check.changesNothing(Scenes::busy, "critical", x -> x.critical(what));
        }
        Check.changesNothing(Scenes::busy, "bound", x -> x.bound(7));
    }
}
