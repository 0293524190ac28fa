/** Promises 25 to 30: go, bench, began, image, back, count. */
public final class TruthTests {
    private static final int NONE = -1, BAD = -2, STATE = -3, FULL = -4;
    private static final int MIN = Scenes.MIN, MAX = Scenes.MAX;

    private TruthTests() {
    }

    public static void main(String[] args) {
        goHourByHour();
        goOfNoneOneAndEight();
        goChooses();
        goTakesTheEnds();
        goRefuses();
        goFull();
        benchRefuses();
        began();
        beganRefuses();
        toldAnew();
        notToldAnew();
        imageOfNoneOneAndEight();
        imageStays();
        imageKeepsJobsAlone();
        backWithoutAnImage();
        count();
        countRefuses();
        Check.end("TruthTests");
    }

    private static BenchWithTails two() {
        return Scenes.of("p1,2,1;p4,1,10");
    }

    private static void bench(String when, BenchWithTails x, long... want) {
        Check.all("bench " + when, what -> x.bench(what), want);
    }

    /** An hour goes by: then it is this NOW, this one is at the bench, these have ENDED, so many were idle. */
    private static void at(BenchWithTails x, int now, int who, int ended, int idle) {
        Check.due("go to " + now, x.go(1), now);
        bench("at " + now, x, now, who, ended, idle);
    }

    // ---- promises 25 and 26: go, bench.

    private static void goHourByHour() {
        BenchWithTails x = two();
        bench("at first", x, 0, NONE, 0, 0);
        at(x, 1, NONE, 0, 1);
        at(x, 2, 0, 0, 1);
        at(x, 3, NONE, 1, 1);
        at(x, 4, NONE, 1, 2);
        at(x, 5, NONE, 3, 2);
        at(x, 6, NONE, 3, 3);
        Check.all("began", job -> x.began(job), 1, 4);
        BenchWithTails y = two();
        Check.due("go(5)", y.go(5), 5);
        bench("after go(5)", y, 5, NONE, 3, 2);
        BenchWithTails z = Scenes.of("p0,3,1");
        Check.due("go(2)", z.go(2), 2);
        bench("after go(2)", z, 2, 0, 0, 0);
        Check.due("go(1)", z.go(1), 3);
        bench("after go(1)", z, 3, NONE, 1, 0);
    }

    private static void goOfNoneOneAndEight() {
        BenchWithTails none = new BenchWithTails();
        Check.due("go(60) of none", none.go(60), 60);
        bench("of none", none, 60, NONE, 0, 60);
        BenchWithTails one = Scenes.of("m60,20,60");
        Check.due("go(60) of one", one.go(60), 60);
        bench("of one at 60", one, 60, NONE, 0, 60);
        Check.due("go(3) of one", one.go(3), 63);
        Check.due("it has not begun", one.began(0), NONE);
        at(one, 64, 0, 0, 63);
        Check.due("it began", one.began(0), 63);
        Check.due("go(23) of one", one.go(23), 87);
        bench("of one at 87", one, 87, 0, 0, 63);
        at(one, 88, NONE, 1, 63);
        BenchWithTails eight = Scenes.eightAlike();
        for (int now = 1; now <= 8; now++) {
            at(eight, now, NONE, (1 << now) - 1, 0);
        }
        at(eight, 9, NONE, 255, 1);
        Check.all("began of eight", job -> eight.began(job), 0, 1, 2, 3, 4, 5, 6, 7);
        BenchWithTails full = Scenes.full();
        bench("of a full one", full, 999, NONE, 255, 999 - full.count(1));
    }

    private static void goChooses() {
        // What COMES as the one ahead ENDS, and COOLS longer, goes ahead of one that has waited.
        BenchWithTails x = Scenes.of("p0,2,0;p0,1,0;p2,1,9");
        at(x, 1, 0, 0, 0);
        at(x, 2, NONE, 1, 0);
        at(x, 3, NONE, 5, 0);
        at(x, 4, NONE, 7, 0);
        Check.all("began", job -> x.began(job), 0, 3, 2);
        // None is broken off.
        BenchWithTails y = Scenes.of("p0,3,0;p1,1,9");
        at(y, 1, 0, 0, 0);
        at(y, 2, 0, 0, 0);
        at(y, 3, NONE, 1, 0);
        at(y, 4, NONE, 3, 0);
        // Of alike ones who TAKES longer, then the least number.
        BenchWithTails z = Scenes.of("p0,1,4;p0,2,4;p0,2,4");
        z.go(5);
        Check.all("began", job -> z.began(job), 4, 0, 2);
    }

    private static void goTakesTheEnds() {
        for (int n = 1; n <= 60; n++) {
            BenchWithTails x = two();
            Check.due("go(" + n + ")", x.go(n), n);
            Check.due("bench(0)", x.bench(0), n);
        }
    }

    private static void goRefuses() {
        for (int n : new int[] {-1, 0, 61, 999, MIN, MAX}) {
            Check.refused(Scenes::busy, "go(" + n + ")", x -> x.go(n), BAD);
            Check.refused(Scenes::full, "go(" + n + ") at 999", x -> x.go(n), BAD);
        }
    }

    private static BenchWithTails at960() {
        BenchWithTails x = Scenes.busy();
        x.set(0, 0, 0);
        Check.times(16, () -> x.go(60));
        return x;
    }

    private static void goFull() {
        Check.due("go to 960", at960().bench(0), 960);
        for (int n : new int[] {40, 41, 60}) {
            Check.refused(() -> at960(), "go(" + n + ") at 960", x -> x.go(n), FULL);
        }
        Check.refused(() -> at960(), "go(61) at 960", x -> x.go(61), BAD);
        Check.due("go(38) at 960", at960().go(38), 998);
        Check.due("go(39) at 960", at960().go(39), 999);
        for (int n : new int[] {1, 2, 60}) {
            Check.refused(Scenes::full, "go(" + n + ") at 999", x -> x.go(n), FULL);
        }
        BenchWithTails x = at960();
        x.go(38);
        Check.due("go(2) at 998", x.go(2), FULL);
        Check.due("go(1) at 998", x.go(1), 999);
        x.set(0, 0, 0);
        Check.due("go(60) as JOBS were told anew", x.go(60), 60);
    }

    private static void benchRefuses() {
        for (int what : new int[] {-1, 4, MIN, MAX}) {
            Check.refused(Scenes::busy, "bench(" + what + ")", x -> x.bench(what), BAD);
            Check.refused(BenchWithTails::new, "bench(" + what + ") of none", x -> x.bench(what), BAD);
        }
        for (int what = 0; what < 4; what++) {
            int w = what;
            Check.changesNothing(Scenes::busy, "bench", x -> x.bench(w));
        }
    }

    // ---- promise 27: began.

    private static void began() {
        BenchWithTails x = Scenes.of("p1,2,1;p4,1,10;p0,1,0");
        Check.all("began at 0", job -> x.began(job), NONE, NONE, NONE);
        x.go(1);
        Check.all("began at 1", job -> x.began(job), NONE, NONE, 0);
        x.go(1);
        Check.all("began at 2", job -> x.began(job), 1, NONE, 0);
        x.go(2);
        Check.all("began at 4", job -> x.began(job), 1, NONE, 0);
        x.go(1);
        Check.all("began at 5", job -> x.began(job), 1, 4, 0);
        Check.due("began(7) of eight", Scenes.eightAlike().began(7), NONE);
        Check.changesNothing(Scenes::busy, "began", y -> y.began(0));
    }

    private static void beganRefuses() {
        for (int job : new int[] {-1, 3, 7, 8, MIN, MAX}) {
            Check.refused(Scenes::busy, "began(" + job + ")", x -> x.began(job), BAD);
        }
        for (int job : new int[] {-1, 8, MIN, MAX}) {
            Check.refused(Scenes::full, "began(" + job + ")", x -> x.began(job), BAD);
        }
        Check.refused(BenchWithTails::new, "began(0) of none", x -> x.began(0), BAD);
        BenchWithTails x = two();
        x.go(9);
        x.drop(1);
        Check.due("began of a dropped one", x.began(1), BAD);
    }

    // ---- in truth: JOBS told anew.

    private static BenchWithTails gone() {
        BenchWithTails x = two();
        x.image();
        x.go(2);
        bench("as it is gone", x, 2, 0, 0, 1);
        return x;
    }

    private static void isAnew(String call, BenchWithTails x) {
        bench("after " + call, x, 0, NONE, 0, 0);
        for (int job = 0; job < x.count(0); job++) {
            Check.due("began(" + job + ") after " + call, x.began(job), NONE);
        }
        Check.due("go(1) after " + call, x.go(1), 1);
    }

    private static void toldAnew() {
        for (int what = 0; what < 4; what++) {
            BenchWithTails same = gone();
            same.set(1, what, same.told(1, what));
            isAnew("set as it is", same);
            BenchWithTails other = gone();
            other.set(1, what, other.told(1, what) + 1);
            isAnew("set", other);
        }
        BenchWithTails job = gone();
        job.job(0, 5, 1, 0);
        isAnew("job", job);
        BenchWithTails drop = gone();
        drop.drop(1);
        isAnew("drop", drop);
        BenchWithTails text = gone();
        Check.text(text, "p5,1,1", 3);
        isAnew("text", text);
        BenchWithTails back = gone();
        back.back();
        isAnew("back", back);
        BenchWithTails ended = two();
        ended.go(9);
        bench("as both have ENDED", ended, 9, NONE, 3, 6);
        ended.back();
        bench("after a refused back", ended, 9, NONE, 3, 6);
        ended.set(0, 3, 1);
        isAnew("set as both have ENDED", ended);
        Check.due("go on", ended.go(2), 3);
        Check.all("began again", j -> ended.began(j), 1, NONE);
    }

    private static void notToldAnew() {
        BenchWithTails x = gone();
        x.feed(5, 'p', '1', ',', '1', ',');
        x.text();
        x.feed(1, 'p', 0, 0, 0, 0);
        x.image();
        Scenes.tell(x, 0, 0, 1, 0);
        x.judge(0, 0);
        x.film(0);
        x.copy(0, 0, 0, 1, 1);
        x.item(0, 0);
        x.greedy(-1, 0);
        x.breaking(0);
        x.critical(0);
        x.branch(0, 0);
        x.bound(1);
        x.strongest(0);
        x.least(0);
        x.many();
        x.order(0);
        x.must(0);
        x.room(0);
        x.gain(0);
        x.drawn(3, 9);
        x.chance(3, 8, 9, 55, 0);
        x.told(0, 4);
        x.taken(0, 0);
        x.count(0);
        x.job(9, 0, 1, 0);
        x.set(0, 9, 0);
        x.drop(9);
        bench("as nothing was told anew", x, 2, 0, 0, 1);
        Check.all("began", job -> x.began(job), 1, NONE);
        at(x, 3, NONE, 1, 1);
        BenchWithTails full = Scenes.full();
        full.text();
        full.job(0, 1, 1, 1);
        Check.due("NOW behind FULL", full.bench(0), 999);
    }

    // ---- promises 28 and 29: image, back.

    private static void imageOfNoneOneAndEight() {
        BenchWithTails x = new BenchWithTails();
        Check.due("image() of none", x.image(), 0);
        Check.due("back() to none from none", x.back(), 0);
        Scenes.feed(x, "r2,3,4");
        x.text();
        Check.due("back() to none", x.back(), 0);
        Check.due("count(0)", x.count(0), 0);
        Check.due("told(0, 0)", x.told(0, 0), BAD);
        BenchWithTails one = Scenes.of("r2,3,4");
        Check.due("image() of one", one.image(), 1);
        one.drop(0);
        Check.due("back() to one", one.back(), 1);
        Check.all("told(0)", what -> one.told(0, what), 1, 2, 3, 4, 2, 3, 9);
        BenchWithTails eight = Scenes.full();
        String jobs = State.jobs(eight);
        Check.due("image() of eight", eight.image(), 8);
        Check.times(8, () -> eight.drop(0));
        Scenes.feed(eight, "x");
        eight.text();
        eight.job(5, 60, 20, 60);
        Check.due("back() to eight", eight.back(), 8);
        Check.due("all eight", State.jobs(eight), jobs);
        Check.due("the ninth", eight.job(0, 0, 1, 0), FULL);
    }

    private static void imageStays() {
        BenchWithTails x = Scenes.of("r2,3,4;s6,7,8");
        Check.due("image()", x.image(), 2);
        for (int round = 0; round < 2; round++) {
            x.set(0, 3, 60);
            x.set(1, 0, 0);
            x.drop(1);
            x.job(0, 0, 1, 0);
            x.job(0, 0, 1, 0);
            Check.due("back()", x.back(), 2);
            Check.all("told(0)", what -> x.told(0, what), 1, 2, 3, 4, 2, 3, 9);
            Check.all("told(1)", what -> x.told(1, what), 5, 6, 7, 8, 9, 7, 16);
        }
        x.drop(0);
        Check.due("image() of the rest", x.image(), 1);
        x.drop(0);
        Check.due("back() to the rest", x.back(), 1);
        Check.all("told(0)", what -> x.told(0, what), 5, 6, 7, 8);
        Check.due("back() at once", x.back(), 1);
        Check.all("told(0)", what -> x.told(0, what), 5, 6, 7, 8);
    }

    private static void imageKeepsJobsAlone() {
        BenchWithTails x = Scenes.busy();
        Check.due("image()", x.image(), 3);
        bench("after image()", x, 4, 0, 0, 0);
        x.put(0, 0, 6);
        x.sheet(2, 1, 3);
        x.feed(1, ',', 0, 0, 0, 0);
        Check.due("back()", x.back(), 3);
        Check.due("the SHEET is not of the image", x.item(0, 0), 6);
        Check.due("nor is another", x.item(2, 2), 0);
        Check.due("THE TAPE is not of the image", x.count(2), 14);
        bench("after back()", x, 0, NONE, 0, 0);
    }

    private static void backWithoutAnImage() {
        Check.refused(BenchWithTails::new, "back() of none", x -> x.back(), STATE);
        Check.refused(TruthTests::two, "back() of two", x -> x.back(), STATE);
        BenchWithTails x = two();
        x.back();
        Check.due("image() behind a refused back()", x.image(), 2);
        Check.due("back() behind image()", x.back(), 2);
    }

    // ---- promise 30: count.

    private static void count() {
        BenchWithTails x = Scenes.of("h0,20,0;s0,1,0;r0,3,9");
        x.feed(3, 1, 2, 3, 4, 5);
        Check.all("count", what -> x.count(what), 3, 29, 3);
        x.drop(0);
        x.text();
        Check.all("count", what -> x.count(what), 2, 4, 0);
        Check.all("count of none", what -> new BenchWithTails().count(what), 0, 0, 0);
        Check.all("count of one", what -> Scenes.one().count(what), 1, 3, 0);
        Check.all("count of eight alike", what -> Scenes.eightAlike().count(what), 8, 8, 0);
        Check.all("count of eight", what -> Scenes.eightGreatest().count(what), 8, 200, 0);
        Check.all("count of a full one", what -> Scenes.full().count(what), 8, 1 + 2 + 5 + 6 + 10 + 10 + 3 + 2, 60);
        for (int what = 0; what < 3; what++) {
            int w = what;
            Check.changesNothing(Scenes::busy, "count", y -> y.count(w));
        }
    }

    private static void countRefuses() {
        for (int what : new int[] {-1, 3, MIN, MAX}) {
            Check.refused(Scenes::busy, "count(" + what + ")", x -> x.count(what), BAD);
            Check.refused(BenchWithTails::new, "count(" + what + ") of none", x -> x.count(what), BAD);
        }
    }
}
