/** Promises 15 to 20: least, many, order, must, room, gain. */
public final class LeastTests {
    private static final int BAD = -2, OUTSIDE = -12;
    private static final int MIN = Scenes.MIN, MAX = Scenes.MAX;

    private LeastTests() {
    }

    public static void main(String[] args) {
        leastOfNoneOneAndEight();
        nodes();
        manyNodes();
        leastRefuses();
        many();
        order();
        orderRefuses();
        must();
        mustRefuses();
        room();
        roomIsCut();
        roomRefuses();
        gain();
        gainRefuses();
        ofAllOrders();
        eachAlone();
        inThought();
        foundAnew();
        manyFoundAnew();
        lessRoomThanAhead();
        rowsAreLaidAnew();
        Check.end("LeastTests");
    }

    private static BenchWithTails of(String items) {
        return Scenes.of(items);
    }

    // ---- promise 15: least.

    private static void leastIs(String items, long... want) {
        Check.all("least of " + items, what -> of(items).least(what), want);
    }

    private static void leastOfNoneOneAndEight() {
        Check.all("least of none", what -> new BenchWithTails().least(what), 0, 1, 1);
        leastIs("p0,1,0", 1, 1, 1);
        leastIs("m1,4,6", 4 + 5 + 12, 1, 1);
        leastIs("p0,5,1;p2,2,10", 14, 2, 2);
        Check.all("least of eight alike", what -> Scenes.eightAlike().least(what), 8, 1, 1);
        Check.all("least of eight", what -> Scenes.eightGreatest().least(what), 383, 1, 1);
        leastIs("p0,1,2;p0,1,1;p0,1,3;p0,1,0", 4, 1, 1);
    }

    private static void nodes() {
        // The BREAKING FINISH of both BRANCHES is 3, as BEST is: no NODES.
        leastIs("p0,1,0;p1,1,1", 3, 1, 1);
        // The second NODE tells 7 too: it was told at the first one.
        leastIs("p1,2,3;p0,2,0;p0,2,0", 7, 2, 1);
        // BRANCH 1 has not what BRANCH 0 changed: 1: 1-2 (4), 0: 2-4 (4).
        leastIs("p0,2,0;p1,1,2", 4, 2, 2);
        // BRANCH 0 goes ahead of BRANCH 1, which alone would tell 7 at once.
        leastIs("p0,2,0;p0,2,0;p3,2,2", 7, 3, 3);
        // BRANCH 0 tells 6: BRANCH 1, whose BREAKING FINISH was less than the 7 told ahead, is no NODE.
        leastIs("p0,1,1;p2,1,2;p0,3,0", 6, 2, 2);
    }

    /** Jobs found by climbing: of the first many NODES follow, of the second many are open at once. */
    private static void manyNodes() {
        BenchWithTails x = of("h2,11,15;s34,2,30;d8,13,1;d11,12,6;h20,11,4;d12,12,3;r59,2,32;h3,10,2");
        Check.all("least", what -> x.least(what), 99, 312, 113);
        BenchWithTails deep = of("m46,1,46;m40,2,45;p17,18,31;r10,19,8;m44,1,47;d32,12,13;s10,20,13;r15,16,40");
        Check.all("least, deep", what -> deep.least(what), 142, 21, 21);
    }

    private static void leastRefuses() {
        for (int what : new int[] {-1, 3, MIN, MAX}) {
            Check.refused(Scenes::busy, "least(" + what + ")", x -> x.least(what), BAD);
            Check.refused(BenchWithTails::new, "least(" + what + ") of none", x -> x.least(what), BAD);
        }
    }

    // ---- promise 16: many.

    private static void many() {
        Check.due("many() of none", new BenchWithTails().many(), 1);
        Check.due("many() of one", Scenes.one().many(), 1);
        Check.due("many() of two", Scenes.two().many(), 1);
        Check.due("both orders", of("p0,1,0;p0,1,0").many(), 2);
        Check.due("many() of eight alike", Scenes.eightAlike().many(), 40320);
        Check.due("many() of eight", Scenes.eightGreatest().many(), 40320);
        Check.due("one alone may be last", of("p0,1,0;p0,1,1;p0,1,1;p0,1,1;p0,1,1;p0,1,1;p0,1,1;p0,1,1").many(), 5040);
        Check.due("one order of four", of("p0,1,2;p0,1,1;p0,1,3;p0,1,0").many(), 1);
        Check.due("two orders of four", of("p0,1,2;p0,1,0;p0,1,3;p0,1,0").many(), 2);
        Check.due("one order of eight", of("p0,1,7;p0,1,6;p0,1,5;p0,1,4;p0,1,3;p0,1,2;p0,1,1;p0,1,0").many(), 1);
        Check.due("one that COMES late, last", of("p0,1,0;p0,1,0;p9,1,0").many(), 2);
        Check.due("one that COMES late, anywhere", of("p0,1,0;p0,1,0;p9,1,9").many(), 6);
    }

    // ---- promise 17: order.

    private static void orderIs(String items, long... want) {
        BenchWithTails x = of(items);
        Check.all("order of " + items, k -> x.order(k), want);
        Check.due("order behind the last", x.order(want.length), OUTSIDE);
    }

    private static void order() {
        orderIs("p7,3,2", 0);
        orderIs("p0,5,1;p2,2,10", 1, 0);
        orderIs("p0,1,2;p0,1,1;p0,1,3;p0,1,0", 2, 0, 1, 3);
        // Of several the least numbers first, whatever GREEDY lays.
        orderIs("p0,1,0;p0,2,0;p0,3,0", 0, 1, 2);
        orderIs("p0,1,0;p0,1,1;p0,1,0;p0,1,0", 0, 1, 2, 3);
        orderIs("p5,1,0;p0,1,0;p0,1,0;p4,1,4", 1, 2, 3, 0);
        orderIs("p5,1,0;p0,1,0;p0,1,0;p9,1,4", 0, 1, 2, 3);
        Check.all("order of eight alike", k -> Scenes.eightAlike().order(k), 0, 1, 2, 3, 4, 5, 6, 7);
        orderIs("p0,1,0;p0,1,1;p0,1,2;p0,1,3;p0,1,4;p0,1,5;p0,1,6;p0,1,7", 7, 6, 5, 4, 3, 2, 1, 0);
    }

    private static void orderRefuses() {
        for (int k : new int[] {-1, 3, 7, 8, MIN, MAX}) {
            Check.refused(Scenes::busy, "order(" + k + ")", x -> x.order(k), OUTSIDE);
        }
        for (int k : new int[] {-1, 8, MIN, MAX}) {
            Check.refused(Scenes::full, "order(" + k + ")", x -> x.order(k), OUTSIDE);
        }
        Check.refused(BenchWithTails::new, "order(0) of none", x -> x.order(0), OUTSIDE);
        Check.refused(BenchWithTails::new, "order(-1) of none", x -> x.order(-1), OUTSIDE);
    }

    // ---- promise 18: must.

    private static void mustIs(String items, long... want) {
        BenchWithTails x = of(items);
        Check.all("must of " + items, job -> x.must(job), want);
    }

    private static void must() {
        mustIs("p7,3,2", 0);
        mustIs("p0,5,1;p2,2,10", 2, 0);
        mustIs("p0,1,0;p0,1,0", 0, 0);
        mustIs("p0,1,2;p0,1,1;p0,1,3;p0,1,0", 4, 5, 0, 7);
        mustIs("p0,1,2;p0,1,0;p0,1,3;p0,1,0", 4, 5, 0, 5);
        mustIs("p0,1,0;p0,1,1;p0,1,1;p0,1,1;p0,1,1;p0,1,1;p0,1,1;p0,1,1", 254, 0, 0, 0, 0, 0, 0, 0);
        mustIs("p0,1,7;p0,1,6;p0,1,5;p0,1,4;p0,1,3;p0,1,2;p0,1,1;p0,1,0", 0, 1, 3, 7, 15, 31, 63, 127);
        Check.all("must of eight alike", job -> Scenes.eightAlike().must(job), 0, 0, 0, 0, 0, 0, 0, 0);
    }

    private static void refusesJob(String call, int due, Call run) {
        for (int job : new int[] {-1, 3, 7, 8, MIN, MAX}) {
            Check.refused(Scenes::busy, call + "(" + job + ")", x -> run.of(x, job), due);
        }
        for (int job : new int[] {-1, 8, MIN, MAX}) {
            Check.refused(Scenes::full, call + "(" + job + ")", x -> run.of(x, job), due);
        }
        Check.refused(BenchWithTails::new, call + "(0) of none", x -> run.of(x, 0), due);
        Check.refused(BenchWithTails::new, call + "(-1) of none", x -> run.of(x, -1), due);
    }

    private interface Call {
        int of(BenchWithTails x, int job);
    }

    private static void mustRefuses() {
        refusesJob("must", BAD, (x, job) -> x.must(job));
    }

    // ---- promise 19: room.

    private static void roomIs(String items, long... want) {
        BenchWithTails x = of(items);
        Check.all("room of " + items, job -> x.room(job), want);
        BenchWithTails later = of(items);
        for (int job = 0; job < want.length; job++) {
            int release = later.told(job, 1);
            int least = later.least(0);
            boolean plain = later.told(job, 0) == 0;
            if (plain && later.set(job, 1, release + (int) want[job]) == release) {
                Check.due("LEAST, as late as that", later.least(0), least);
                later.set(job, 1, release);
            }
            if (plain && later.set(job, 1, release + (int) want[job] + 1) == release) {
                Check.due("LEAST, an hour later is more", later.least(0) > least ? 1 : 0, 1);
                later.set(job, 1, release);
            }
        }
    }

    private static void room() {
        roomIs("p7,3,2", 0);
        roomIs("p0,1,0", 0);
        roomIs("p0,5,1;p2,2,10", 8, 0);
        // The first one must go first: it may begin at 3.
        roomIs("p0,2,19;p5,1,20", 3, 0);
        roomIs("p0,1,2;p0,1,1;p0,1,3;p0,1,0", 1, 2, 0, 3);
        roomIs("p0,1,2;p0,1,0;p0,1,3;p0,1,0", 1, 3, 0, 3);
        roomIs("p5,1,0;p0,1,0;p0,1,0;p4,1,9", 8, 13, 13, 0);
        Check.all("room of eight alike", job -> Scenes.eightAlike().room(job), 7, 7, 7, 7, 7, 7, 7, 7);
        Check.all("room of eight", job -> Scenes.eightGreatest().room(job), 99, 99, 99, 99, 99, 99, 99, 99);
    }

    private static void roomIsCut() {
        // The first may begin an hour ahead of LEAST, which is 99, 100, 101.
        roomIs("p0,1,0;p19,20,60", 98, 0);
        roomIs("p0,1,0;p20,20,60", 99, 0);
        roomIs("p0,1,0;p21,20,60", 99, 0);
        roomIs("p0,1,0;m60,20,60", 99, 0);
        // It is of when it COMES: LEAST is 78, DAWN (at 10, COOLS 5) may begin at 72; DAMP (at 24) at 77.
        roomIs("d21,1,0;m60,4,5", 62, 0);
        roomIs("m21,1,0;m60,4,5", 53, 0);
    }

    private static void roomRefuses() {
        refusesJob("room", BAD, (x, job) -> x.room(job));
    }

    // ---- promise 20: gain.

    private static void gainIs(String items, long... want) {
        BenchWithTails x = of(items);
        Check.all("gain of " + items, job -> x.gain(job), want);
        for (int job = 0; job < want.length; job++) {
            BenchWithTails without = of(items);
            int least = without.least(0);
            without.drop(job);
            Check.due("LEAST without " + job, without.least(0), least - want[job]);
        }
    }

    private static void gain() {
        gainIs("p0,1,0", 1);
        gainIs("m1,4,6", 21);
        gainIs("p0,5,1;p2,2,10", 0, 8);
        gainIs("p0,1,2;p0,1,1;p0,1,3;p0,1,0", 0, 0, 1, 0);
        gainIs("p0,2,0;p0,2,0;p3,2,2", 0, 0, 3);
        gainIs("p0,9,0;p3,2,20", 0, 16);
        gainIs("p0,1,0;p0,1,1;p0,1,2;p0,1,3;p0,1,4;p0,1,5;p0,1,6;p0,1,20", 0, 0, 0, 0, 0, 0, 0, 14);
        gainIs("p0,1,20;p0,1,6;p0,1,5;p0,1,4;p0,1,3;p0,1,2;p0,1,1;p0,1,0", 14, 0, 0, 0, 0, 0, 0, 0);
        Check.all("gain of eight alike", job -> Scenes.eightAlike().gain(job), 1, 1, 1, 1, 1, 1, 1, 1);
        Check.all("gain of eight", job -> Scenes.eightGreatest().gain(job), 25, 25, 25, 25, 25, 25, 25, 25);
    }

    private static void gainRefuses() {
        refusesJob("gain", BAD, (x, job) -> x.gain(job));
    }

    // ---- promises 15 to 20 together.

    private static void allOf(String items, long[] least, int many, long[] order,
            long[] must, long[] room, long[] gain) {
        leastIs(items, least);
        Check.due("many() of " + items, of(items).many(), many);
        orderIs(items, order);
        mustIs(items, must);
        roomIs(items, room);
        gainIs(items, gain);
    }

    private static long[] row(long... numbers) {
        return numbers;
    }

    /** Drawn ones, found by laying all orders; the last one is that of the shared tests. */
    private static void ofAllOrders() {
        allOf("d16,4,15;p15,1,1;p7,7,6;p11,6,23", row(41, 2, 2), 4, row(0, 3, 1, 2),
                row(0, 9, 9, 0), row(9, 24, 21, 1), row(1, 0, 0, 9));
        allOf("h8,9,12;s8,7,6;r12,4,24;d16,2,2", row(46, 3, 3), 4, row(2, 0, 1, 3),
                row(4, 4, 0, 0), row(15, 16, 0, 29), row(1, 1, 8, 0));
        allOf("r6,7,8;r19,7,24;p18,6,11;m15,4,15;h12,7,5", row(59, 4, 4), 4, row(0, 3, 1, 2, 4),
                row(0, 8, 10, 0, 11), row(33, 4, 24, 0, 34), row(0, 6, 0, 4, 0));
        allOf("p16,5,19;p4,7,0;s13,4,8;r3,8,20;m12,6,6;p2,4,4", row(44, 5, 5), 6, row(3, 0, 2, 4, 5, 1),
                row(8, 61, 8, 0, 13, 0), row(4, 33, 5, 5, 10, 31), row(5, 0, 4, 0, 3, 0));
        allOf("s3,3,0;p19,8,16;r9,7,1;s0,2,9;m10,6,7;h19,9,2", row(47, 2, 1), 4, row(0, 3, 2, 4, 1, 5),
                row(0, 28, 8, 0, 12, 30), row(39, 4, 0, 5, 3, 15), row(0, 10, 3, 0, 4, 3));
        allOf("m4,2,23;s10,7,20;s15,4,24;m9,9,14;m18,6,13;p4,1,21;m17,9,9", row(72, 2, 2), 10,
                row(0, 1, 2, 3, 4, 5, 6), row(0, 1, 3, 7, 7, 0, 63), row(4, 0, 2, 20, 15, 38, 23),
                row(0, 2, 5, 2, 2, 0, 0));
        allOf("h7,1,24;m2,6,9;r16,9,1;d15,9,24;d1,6,6;r17,4,2;h19,7,7", row(51, 2, 1), 16,
                row(4, 0, 3, 1, 5, 6, 2), row(16, 16, 27, 16, 0, 24, 27), row(19, 16, 20, 6, 1, 23, 17),
                row(1, 6, 6, 7, 1, 4, 6));
        allOf("p10,5,7;p13,6,26;p11,7,24;p20,4,21;p30,3,8;p0,6,17;p30,2,0", row(50, 2, 2), 6,
                row(5, 2, 1, 3, 0, 4, 6), row(46, 36, 32, 38, 46, 0, 46), row(28, 5, 0, 5, 9, 5, 18),
                row(0, 5, 5, 0, 0, 0, 0));
    }

    /** Each of these as the first call after JOBS are told. */
    private static void eachAlone() {
        Check.due("many() first", Scenes.two().many(), 1);
        Check.due("order(0) first", Scenes.two().order(0), 1);
        Check.due("must(0) first", Scenes.two().must(0), 2);
        Check.due("room(0) first", Scenes.two().room(0), 8);
        Check.due("gain(1) first", Scenes.two().gain(1), 8);
        Check.due("least(1) first", Scenes.two().least(1), 2);
        Check.due("least(2) first", Scenes.two().least(2), 2);
    }

    private static void inThought() {
        Check.changesNothing(Scenes::busy, "least", x -> x.least(0));
        Check.changesNothing(Scenes::busy, "many", x -> x.many());
        Check.changesNothing(Scenes::busy, "order", x -> x.order(0));
        Check.changesNothing(Scenes::busy, "must", x -> x.must(0));
        Check.changesNothing(Scenes::busy, "room", x -> x.room(0));
        Check.changesNothing(Scenes::busy, "gain", x -> x.gain(0));
    }

    /** What was found is found anew as JOBS change. */
    private static void foundAnew() {
        BenchWithTails x = Scenes.two();
        Check.due("least(0)", x.least(0), 14);
        x.image();
        x.set(0, 2, 6);
        Check.due("least(0) after set", x.least(0), 14);
        Check.due("room(0) after set", x.room(0), 7);
        x.set(1, 1, 4);
        Check.due("least(0) after set", x.least(0), 16);
        x.job(0, 0, 1, 60);
        Check.due("least(0) after job", x.least(0), 61);
        x.drop(2);
        Check.due("least(0) after drop", x.least(0), 16);
        Check.text(x, "p1,1,60", 3);
        Check.due("least(0) after text", x.least(0), 62);
        x.back();
        Check.due("least(0) after back", x.least(0), 14);
        Check.due("many() after back", x.many(), 1);
        Check.due("drawn", x.drawn(1, 30) > 14 ? 1 : 0, 1);
        Check.due("gain(0)", x.gain(0), 0);
        Check.all("least after those in thought", what -> x.least(what), 14, 2, 2);
        Check.all("room after those in thought", job -> x.room(job), 8, 0);
    }

    private static void manyFoundAnew() {
        BenchWithTails x = Scenes.eightAlike();
        Check.due("many() of eight alike", x.many(), 40320);
        Check.due("many() once more", x.many(), 40320);
        for (int job = 0; job < 8; job++) {
            x.set(job, 3, job);
        }
        Check.due("many() after set", x.many(), 1);
        Check.all("must after set", job -> x.must(job), 254, 252, 248, 240, 224, 192, 128, 0);
        Check.all("room after set", job -> x.room(job), 7, 6, 5, 4, 3, 2, 1, 0);
        x.drop(7);
        Check.due("many() after drop", x.many(), 1);
        Check.all("must after drop", job -> x.must(job), 126, 124, 120, 112, 96, 64, 0, BAD);
        x.set(6, 3, 0);
        // Each but the last two may be an hour late: 2 times 2 .. six times.
        Check.due("many() after set", x.many(), 64);
    }

    /** LEAST falls from 61 to 4: what was in time ahead of it is not any more. */
    private static void lessRoomThanAhead() {
        BenchWithTails x = of("p0,1,60;p0,1,1;p0,1,3;p0,1,0");
        Check.due("many()", x.many(), 6);
        Check.all("must", job -> x.must(job), 0, 1, 1, 1);
        Check.all("room", job -> x.room(job), 0, 59, 57, 60);
        x.set(0, 3, 2);
        Check.due("many() after set", x.many(), 1);
        Check.all("order after set", k -> x.order(k), 2, 0, 1, 3);
        Check.all("must after set", job -> x.must(job), 4, 5, 0, 7);
        Check.all("room after set", job -> x.room(job), 1, 2, 0, 3);
    }

    private static void rowsAreLaidAnew() {
        BenchWithTails x = of("p0,1,2;p0,1,1;p0,1,3");
        Check.all("order", k -> x.order(k), 2, 0, 1);
        Check.all("order again", k -> x.order(k), 2, 0, 1);
        Scenes.tell(x, 0, 1, 1, 0, 2);
        Check.due("judge of 1 0 2", x.judge(0, 0), 6);
        Check.all("order after judge", k -> x.order(k), 2, 0, 1);
        x.set(1, 3, 9);
        Check.all("order after set", k -> x.order(k), 1, 0, 2);
        x.judge(0, 0);
        x.film(1);
        Check.all("film after judge", k -> x.item(1, k), 1, 0, 2);
        x.drop(0);
        Check.all("order after drop", k -> x.order(k), 0, 1);
    }
}
