/** Promises 9 to 14: greedy, breaking, critical, branch, bound, strongest. */
public final class RowTests {
    private static final int BAD = -2, STATE = -3, OUTSIDE = -12;
    private static final int[] FAR = {Integer.MIN_VALUE, Integer.MAX_VALUE};

    private RowTests() {
    }

    public static void main(String[] args) {
        greedy();
        greedyChoice();
        breaking();
        breakingEdges();
        critical();
        criticalEdges();
        branch();
        branchKeepsMore();
        bound();
        strongest();
        Check.end("RowTests");
    }

    private static BenchWithTails of(String text) {
        BenchWithTails x = new BenchWithTails();
        Check.due("jobs of " + text, Check.read(x, text), x.count(0));
        return x;
    }

    /** Two: the short one with the long tail comes while the other is at the bench. */
    private static BenchWithTails two() {
        return of("p0,5,1;p2,2,10");
    }

    private static void greedy() {
        BenchWithTails x = two();
        Check.due("greedy(-1, 0)", x.greedy(-1, 0), 17);
        Check.due("greedy(-1, 1)", x.greedy(-1, 1), 0);
        Check.all("greedy(k, 0)", 2, k -> x.greedy(k, 0), 0, 1);
        Check.all("greedy(k, 1)", 2, k -> x.greedy(k, 1), 0, 5);
        for (int what : new int[] {-1, 2, FAR[0], FAR[1]}) {
            Check.refused(x, "greedy(-1, " + what + ")", () -> x.greedy(-1, what), BAD);
            Check.refused(x, "greedy(9, " + what + ")", () -> x.greedy(9, what), BAD);
        }
        for (int k : new int[] {-2, 2, 8, FAR[0], FAR[1]}) {
            Check.refused(x, "greedy(" + k + ", 0)", () -> x.greedy(k, 0), OUTSIDE);
            Check.refused(x, "greedy(" + k + ", 1)", () -> x.greedy(k, 1), OUTSIDE);
        }
        BenchWithTails none = new BenchWithTails();
        Check.due("greedy(-1, 0) of none", none.greedy(-1, 0), 0);
        Check.due("greedy(-1, 1) of none", none.greedy(-1, 1), 0);
        Check.due("greedy(0, 0) of none", none.greedy(0, 0), OUTSIDE);
        Check.due("greedy(0, 1) of none", none.greedy(0, 1), OUTSIDE);
    }

    private static void greedyChoice() {
        BenchWithTails tail = of("p0,9,3;p0,1,4");
        Check.all("longest tail first", 2, k -> tail.greedy(k, 0), 1, 0);
        BenchWithTails work = of("p0,2,3;p0,4,3;p0,3,3");
        Check.all("of alike tails the longest work first", 3, k -> work.greedy(k, 0), 1, 2, 0);
        BenchWithTails alike = of("p0,2,3;p0,2,3;p0,2,3");
        Check.all("of alike ones the least number first", 3, k -> alike.greedy(k, 0), 0, 1, 2);
        BenchWithTails cools = of("p0,9,4;r0,1,0");
        Check.all("it is what they COOL, not the TAIL", 2, k -> cools.greedy(k, 0), 1, 0);
        BenchWithTails takes = of("p0,4,0;h0,4,0");
        Check.all("it is what they TAKE, not the WORK", 2, k -> takes.greedy(k, 0), 1, 0);
        BenchWithTails late = of("p9,2,0;p5,2,0;p7,1,60");
        Check.all("one that COMES as the bench falls free counts", 3, k -> late.greedy(k, 0), 1, 2, 0);
        Check.all("its hours", 3, k -> late.greedy(k, 1), 5, 7, 9);
        Check.due("greedy(-1, 1)", late.greedy(-1, 1), 6);
        Check.due("greedy(-1, 0)", late.greedy(-1, 0), 68);
        BenchWithTails gaps = of("p10,3,0;p20,4,0");
        Check.due("IDLE with two gaps", gaps.greedy(-1, 1), 17);
        Check.due("FINISH with two gaps", gaps.greedy(-1, 0), 24);
    }

    private static void breaking() {
        BenchWithTails x = two();
        Check.due("breaking(0)", x.breaking(0), 14);
        Check.due("breaking(1)", x.breaking(1), 1);
        for (int what : new int[] {-1, 2, FAR[0], FAR[1]}) {
            Check.refused(x, "breaking(" + what + ")", () -> x.breaking(what), BAD);
        }
        BenchWithTails none = new BenchWithTails();
        Check.due("breaking(0) of none", none.breaking(0), 0);
        Check.due("breaking(1) of none", none.breaking(1), 0);
    }

    private static void breakingEdges() {
        BenchWithTails alike = of("p0,5,9;p2,2,9");
        Check.due("alike tails break nothing off", alike.breaking(1), 0);
        Check.due("their FINISH", alike.breaking(0), 16);
        BenchWithTails ended = of("p0,5,1;p5,2,9");
        Check.due("one that ENDS as the other COMES is not BROKEN OFF", ended.breaking(1), 0);
        BenchWithTails last = of("p0,5,1;p4,2,9");
        Check.due("it is in its last hour", last.breaking(1), 1);
        Check.due("and FINISH is", last.breaking(0), 15);
        BenchWithTails nested = of("p0,9,1;p2,5,5;p4,1,20");
        Check.due("one breaks one that broke one", nested.breaking(1), 2);
        Check.due("its FINISH", nested.breaking(0), 25);
        BenchWithTails twice = of("p0,9,0;p1,1,3;p3,1,3;p5,1,3");
        Check.due("one may be BROKEN OFF more than once", twice.breaking(1), 3);
        Check.due("its FINISH", twice.breaking(0), 12);
        // 0 is broken off with 1 hour left; TAKING 6 in all it still goes ahead of 2, which TAKES 5.
        BenchWithTails whole = of("p0,6,4;p5,2,30;p6,5,4;p8,1,6");
        Check.due("TAKES is as it is in all", whole.breaking(0), 37);
        Check.due("broken off", whole.breaking(1), 1);
    }

    private static void critical() {
        BenchWithTails x = two();
        Check.all("critical", 5, what -> x.critical(what), 1, 0, 0, 2, 2);
        for (int what : new int[] {-1, 5, FAR[0], FAR[1]}) {
            Check.refused(x, "critical(" + what + ")", () -> x.critical(what), BAD);
        }
        BenchWithTails none = new BenchWithTails();
        for (int what = 0; what < 5; what++) {
            int w = what;
            Check.refused(none, "critical of none", () -> none.critical(w), STATE);
        }
        Check.due("critical(5) of none", none.critical(5), BAD);
        Check.due("critical(-1) of none", none.critical(-1), BAD);
    }

    private static void criticalEdges() {
        BenchWithTails one = of("p7,3,2");
        Check.all("critical of one", 5, what -> one.critical(what), 0, 0, -1, 0, 1);
        BenchWithTails tie = of("p0,2,5;p0,3,2");
        // 0: 0-2 (5), 1: 2-5 (2): both have FINISH 7.
        Check.all("LAST is the last to BEGIN of those", 5, what -> tie.critical(what), 1, 0, -1, 0, 2);
        tie.set(1, 3, 1);
        Check.all("LAST is not the last of all", 5, what -> tie.critical(what), 0, 0, -1, 0, 1);
        BenchWithTails gap = of("p0,2,0;p3,2,0;p3,1,9;p4,4,3");
        Check.all("the BLOCK ends at an hour without one", 5, what -> gap.critical(what), 2, 2, -1, 0, 1);
        BenchWithTails rows = of("p0,2,0;p2,2,0;p3,1,9;p4,4,9");
        // 0: 0-2, 1: 2-4, 3: 4-8 (9), 2: 8-9 (9): LAST is 2, BAR is 1, BEHIND are 3 and 2.
        Check.all("BAR is the last one that COOLS shorter", 5, what -> rows.critical(what), 2, 0, 1, 12, 4);
        rows.set(1, 3, 9);
        // 0: 0-2, 1: 2-4 (9), 3: 4-8 (9), 2: 8-9 (9).
        Check.all("all is found anew", 5, what -> rows.critical(what), 2, 0, 0, 14, 4);
        rows.set(2, 3, 0);
        Check.all("all is found anew", 5, what -> rows.critical(what), 3, 0, 0, 10, 3);
        BenchWithTails behind = of("p0,4,0;p1,4,9;p2,3,9;p2,1,0");
        // 0: 0-4, 1: 4-8, 2: 8-11 (20), 3: 11-12: the one behind LAST is not of the BLOCK.
        Check.all("the BLOCK goes up to LAST", 5, what -> behind.critical(what), 2, 0, 0, 6, 3);
    }

    private static void branch() {
        BenchWithTails x = two();
        Check.all("branch(0)", 3, what -> x.branch(0, what), 17, 17, 12);
        Check.all("branch(1)", 3, what -> x.branch(1, what), 14, 14, 4);
        Check.due("a branch is in thought", x.told(0, 6), 1);
        Check.due("a branch is in thought", x.greedy(-1, 0), 17);
        for (int bad : new int[] {-1, 3, FAR[0], FAR[1]}) {
            Check.refused(x, "branch(0, " + bad + ")", () -> x.branch(0, bad), BAD);
            Check.refused(x, "branch(" + bad + ", 0)", () -> x.branch(bad, 0), BAD);
        }
        Check.refused(x, "branch(2, 0)", () -> x.branch(2, 0), BAD);
        BenchWithTails one = of("p7,3,2");
        Check.refused(one, "branch without a BAR", () -> one.branch(0, 0), STATE);
        Check.refused(one, "branch without a BAR", () -> one.branch(1, 2), STATE);
        Check.refused(one, "branch(2, 0) without a BAR", () -> one.branch(2, 0), BAD);
        Check.refused(one, "branch(0, 3) without a BAR", () -> one.branch(0, 3), BAD);
        BenchWithTails none = new BenchWithTails();
        Check.refused(none, "branch of none", () -> none.branch(0, 2), STATE);
    }

    /** Two BEHIND: all that they TAKE counts, and the hour at which the first of them COMES. */
    private static void branchKeepsMore() {
        BenchWithTails x = of("p0,4,0;p1,4,9;p2,3,9");
        Check.due("BAR COOLS then", x.branch(0, 2), 4 + 3 + 9);
        Check.due("BAR COMES then", x.branch(1, 2), 1 + 4 + 3);
        // 0: 0-4 (16), 1: 4-8 (9), 2: 8-11 (9).
        Check.due("branch(0, 0)", x.branch(0, 0), 20);
        Check.due("branch(0, 1)", x.branch(0, 1), 20);
        // 1: 1-5 (9), 2: 5-8 (9), 0: 8-12.
        Check.due("branch(1, 0)", x.branch(1, 0), 17);
        Check.due("branch(1, 1)", x.branch(1, 1), 17);
    }

    private static void bound() {
        BenchWithTails x = two();
        Check.due("bound(1)", x.bound(1), 6);
        Check.due("bound(2)", x.bound(2), 14);
        Check.due("bound(3)", x.bound(3), 8);
        for (int set : new int[] {0, 4, 5, 7, 256, -1, -2, FAR[0], FAR[1]}) {
            Check.refused(x, "bound(" + set + ")", () -> x.bound(set), BAD);
        }
        BenchWithTails none = new BenchWithTails();
        Check.refused(none, "bound(0) of none", () -> none.bound(0), BAD);
        Check.refused(none, "bound(1) of none", () -> none.bound(1), BAD);
        BenchWithTails eight = of("p1,1,1;p1,1,1;p1,1,1;p1,1,1;p1,1,1;p1,1,1;p1,1,1;d1,1,1");
        Check.due("bound(255)", eight.bound(255), 9);
        Check.due("bound(128)", eight.bound(128), 7);
        Check.due("bound(127)", eight.bound(127), 9);
        Check.refused(eight, "bound(256)", () -> eight.bound(256), BAD);
    }

    private static void strongest() {
        BenchWithTails x = two();
        Check.due("strongest(0)", x.strongest(0), 2);
        Check.due("strongest(1)", x.strongest(1), 14);
        for (int what : new int[] {-1, 2, FAR[0], FAR[1]}) {
            Check.refused(x, "strongest(" + what + ")", () -> x.strongest(what), BAD);
        }
        BenchWithTails fewest = of("p0,1,4;p0,1,5");
        Check.due("of alike sets the one of the fewest", fewest.strongest(0), 2);
        Check.due("its BOUND", fewest.strongest(1), 6);
        BenchWithTails least = of("p5,1,0;p0,1,5");
        Check.due("of alike ones the least as bits", least.strongest(0), 1);
        BenchWithTails all = of("p0,1,0;p0,1,0");
        Check.due("all of them", all.strongest(0), 3);
        BenchWithTails three = of("p0,2,3;p0,2,3;p9,1,0;p1,10,3");
        Check.due("all but one", three.strongest(0), 11);
        Check.due("its BOUND", three.strongest(1), 17);
        BenchWithTails none = new BenchWithTails();
        Check.refused(none, "strongest(0) of none", () -> none.strongest(0), STATE);
        Check.refused(none, "strongest(1) of none", () -> none.strongest(1), STATE);
        Check.refused(none, "strongest(2) of none", () -> none.strongest(2), BAD);
    }
}
