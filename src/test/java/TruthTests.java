/** Promises 25 to 30: go, bench, began, image, back, count. */
public final class TruthTests {
    private static final int NONE = -1, BAD = -2, STATE = -3, FULL = -4;
    private static final int[] FAR = {Integer.MIN_VALUE, Integer.MAX_VALUE};

    private TruthTests() {
    }

    public static void main(String[] args) {
        go();
        goLimits();
        anew();
        began();
        image();
        imageKeepsJobsAlone();
        count();
        Check.end("TruthTests");
    }

    private static BenchWithTails two() {
        BenchWithTails x = new BenchWithTails();
        x.job(0, 1, 2, 1);
        x.job(0, 4, 1, 10);
        return x;
    }

    private static void at(BenchWithTails x, int now, int who, int ended, int idle) {
        Check.due("go to " + now, x.go(1), now);
        Check.all("bench at " + now, 4, what -> x.bench(what), now, who, ended, idle);
    }

    private static void go() {
        BenchWithTails x = two();
        Check.all("bench", 4, what -> x.bench(what), 0, NONE, 0, 0);
        at(x, 1, NONE, 0, 1);
        at(x, 2, 0, 0, 1);
        at(x, 3, NONE, 1, 1);
        at(x, 4, NONE, 1, 2);
        at(x, 5, NONE, 3, 2);
        at(x, 6, NONE, 3, 3);
        Check.all("began", 2, job -> x.began(job), 1, 4);
        // What COMES as the one ahead ENDS, and COOLS longer, goes ahead of one that has waited.
        BenchWithTails y = new BenchWithTails();
        y.job(0, 0, 2, 0);
        y.job(0, 0, 1, 0);
        y.job(0, 2, 1, 9);
        at(y, 1, 0, 0, 0);
        at(y, 2, NONE, 1, 0);
        at(y, 3, NONE, 5, 0);
        at(y, 4, NONE, 7, 0);
        Check.all("began", 3, job -> y.began(job), 0, 3, 2);
        for (int bad : new int[] {-1, 4, FAR[0], FAR[1]}) {
            Check.refused(x, "bench(" + bad + ")", () -> x.bench(bad), BAD);
        }
    }

    private static void goLimits() {
        BenchWithTails x = two();
        for (int bad : new int[] {-1, 0, 61, FAR[0], FAR[1]}) {
            Check.refused(x, "go(" + bad + ")", () -> x.go(bad), BAD);
        }
        Check.due("go 16 times 60", Check.times(16, () -> x.go(60)), 960);
        Check.refused(x, "go(40) at 960", () -> x.go(40), FULL);
        Check.refused(x, "go(61) at 960", () -> x.go(61), BAD);
        Check.due("go(39) at 960", x.go(39), 999);
        Check.refused(x, "go(1) at 999", () -> x.go(1), FULL);
        Check.refused(x, "go(0) at 999", () -> x.go(0), BAD);
        Check.all("bench", 4, what -> x.bench(what), 999, NONE, 3, 996);
    }

    /** As anything of JOBS is told anew, NOW is 0; all else leaves it as it is. */
    private static void anew() {
        BenchWithTails x = two();
        x.go(9);
        x.feed(5, 'p', '1', ',', '1', ',');
        x.text();
        x.feed(1, 'p', 0, 0, 0, 0);
        x.image();
        x.sheet(0, 0, 2);
        x.put(0, 0, 1);
        x.judge(0, 0);
        x.film(0);
        x.least(0);
        x.drawn(3, 9);
        x.chance(3, 8, 9, 55, 0);
        x.branch(0, 0);
        x.job(9, 0, 1, 0);
        x.set(0, 9, 0);
        x.drop(9);
        Check.all("bench", 4, what -> x.bench(what), 9, NONE, 3, 6);
        Check.all("began", 2, job -> x.began(job), 1, 4);
        x.set(0, 1, 1);
        Check.all("bench after set", 4, what -> x.bench(what), 0, NONE, 0, 0);
        Check.all("began after set", 2, job -> x.began(job), NONE, NONE);
        x.go(2);
        Check.due("at the bench", x.bench(1), 0);
        x.drop(1);
        Check.all("bench after drop", 4, what -> x.bench(what), 0, NONE, 0, 0);
        x.go(2);
        x.job(0, 0, 1, 0);
        Check.all("bench after job", 4, what -> x.bench(what), 0, NONE, 0, 0);
        x.go(2);
        x.back();
        Check.all("bench after back", 4, what -> x.bench(what), 0, NONE, 0, 0);
        x.go(2);
        x.text();
        x.feed(5, 'p', '1', ',', '1', ',');
        x.feed(1, '1', 0, 0, 0, 0);
        x.text();
        Check.all("bench after text", 4, what -> x.bench(what), 0, NONE, 0, 0);
        Check.due("go again", x.go(3), 3);
        Check.due("began again", x.began(0), 1);
    }

    private static void began() {
        BenchWithTails x = two();
        x.job(0, 0, 1, 0);
        x.go(2);
        Check.all("began", 3, job -> x.began(job), 1, NONE, 0);
        for (int bad : new int[] {-1, 3, 8, FAR[0], FAR[1]}) {
            Check.refused(x, "began(" + bad + ")", () -> x.began(bad), BAD);
        }
    }

    private static void image() {
        BenchWithTails x = new BenchWithTails();
        Check.refused(x, "back() of none", () -> x.back(), STATE);
        Check.due("image() of no JOBS", x.image(), 0);
        x.job(1, 2, 3, 4);
        Check.due("back() to no JOBS", x.back(), 0);
        Check.due("count(0)", x.count(0), 0);
        x.job(1, 2, 3, 4);
        x.job(5, 6, 7, 8);
        Check.due("image()", x.image(), 2);
        x.set(0, 3, 60);
        x.drop(1);
        x.job(0, 0, 1, 0);
        x.job(0, 0, 1, 0);
        Check.due("back()", x.back(), 2);
        Check.all("told(0)", 7, what -> x.told(0, what), 1, 2, 3, 4, 2, 3, 9);
        Check.all("told(1)", 7, what -> x.told(1, what), 5, 6, 7, 8, 9, 7, 16);
        x.set(1, 1, 0);
        x.drop(0);
        Check.due("back() once more", x.back(), 2);
        Check.all("told(0)", 4, what -> x.told(0, what), 1, 2, 3, 4);
        Check.all("told(1)", 4, what -> x.told(1, what), 5, 6, 7, 8);
        x.drop(0);
        Check.due("image() of the rest", x.image(), 1);
        x.drop(0);
        Check.due("back() to the rest", x.back(), 1);
        Check.all("told(0)", 4, what -> x.told(0, what), 5, 6, 7, 8);
    }

    private static void imageKeepsJobsAlone() {
        BenchWithTails x = two();
        x.sheet(0, 0, 1);
        x.put(0, 0, 5);
        x.feed(2, 'p', '1', 0, 0, 0);
        x.go(7);
        String was = State.of(x);
        Check.due("image()", x.image(), 2);
        Check.due("an image changes nothing", State.of(x), was);
        x.put(0, 0, 6);
        x.sheet(1, 1, 3);
        x.feed(1, ',', 0, 0, 0, 0);
        Check.due("back()", x.back(), 2);
        Check.due("the SHEET is not of the image", x.item(0, 0), 6);
        Check.due("nor is another", x.item(1, 2), 0);
        Check.due("THE TAPE is not of the image", x.count(2), 3);
        Check.due("NOW", x.bench(0), 0);
    }

    private static void count() {
        BenchWithTails x = new BenchWithTails();
        x.job(2, 0, 20, 0);
        x.job(5, 0, 1, 0);
        x.job(1, 0, 3, 9);
        x.feed(3, 1, 2, 3, 4, 5);
        Check.all("count", 3, what -> x.count(what), 3, 29, 3);
        x.drop(0);
        x.text();
        Check.all("count", 3, what -> x.count(what), 2, 4, 0);
        for (int bad : new int[] {-1, 3, FAR[0], FAR[1]}) {
            Check.refused(x, "count(" + bad + ")", () -> x.count(bad), BAD);
        }
    }
}
