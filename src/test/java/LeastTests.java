/** Promises 15 to 20: least, many, order, must, room, gain. */
public final class LeastTests {
    private static final int BAD = -2, OUTSIDE = -12;
    private static final int[] FAR = {Integer.MIN_VALUE, Integer.MAX_VALUE};

    private LeastTests() {
    }

    public static void main(String[] args) {
        small();
        none();
        one();
        wrong();
        eightAlike();
        rowOfTails();
        manyNodes();
        fresh();
        rowsAreLaidAnew();
        eachAlone();
        roomIsCut();
        Check.end("LeastTests");
    }

    private static BenchWithTails of(String text) {
        BenchWithTails x = new BenchWithTails();
        for (String item : text.split(";")) {
            Check.due("jobs of " + item, Check.read(x, item), x.count(0));
        }
        return x;
    }

    private static void small() {
        BenchWithTails x = of("p0,5,1;p2,2,10");
        Check.all("least", 3, what -> x.least(what), 14, 2, 2);
        Check.due("many()", x.many(), 1);
        Check.all("order", 2, k -> x.order(k), 1, 0);
        Check.all("must", 2, job -> x.must(job), 2, 0);
        Check.all("room", 2, job -> x.room(job), 8, 0);
        Check.all("gain", 2, job -> x.gain(job), 0, 8);
    }

    private static void none() {
        BenchWithTails x = new BenchWithTails();
        Check.all("least of none", 3, what -> x.least(what), 0, 1, 1);
        Check.due("many() of none", x.many(), 1);
        Check.refused(x, "order(0) of none", () -> x.order(0), OUTSIDE);
        Check.refused(x, "must(0) of none", () -> x.must(0), BAD);
        Check.refused(x, "room(0) of none", () -> x.room(0), BAD);
        Check.refused(x, "gain(0) of none", () -> x.gain(0), BAD);
    }

    private static void one() {
        BenchWithTails x = of("m1,4,6");
        Check.all("least of one", 3, what -> x.least(what), 4 + 5 + 12, 1, 1);
        Check.due("many() of one", x.many(), 1);
        Check.due("order(0) of one", x.order(0), 0);
        Check.due("must(0) of one", x.must(0), 0);
        Check.due("room(0) of one", x.room(0), 0);
        Check.due("gain(0) of one", x.gain(0), 21);
    }

    private static void wrong() {
        BenchWithTails x = of("p0,5,1;p2,2,10");
        x.go(3);
        for (int bad : new int[] {-1, 3, FAR[0], FAR[1]}) {
            Check.refused(x, "least(" + bad + ")", () -> x.least(bad), BAD);
        }
        for (int bad : new int[] {-1, 2, 8, FAR[0], FAR[1]}) {
            Check.refused(x, "order(" + bad + ")", () -> x.order(bad), OUTSIDE);
            Check.refused(x, "must(" + bad + ")", () -> x.must(bad), BAD);
            Check.refused(x, "room(" + bad + ")", () -> x.room(bad), BAD);
            Check.refused(x, "gain(" + bad + ")", () -> x.gain(bad), BAD);
        }
        String was = State.of(x);
        x.least(0);
        x.many();
        x.order(0);
        x.must(0);
        x.room(0);
        x.gain(0);
        Check.due("all of these are in thought", State.of(x), was);
    }

    private static void eightAlike() {
        BenchWithTails x = of("p3,2,5;p3,2,5;p3,2,5;p3,2,5;p3,2,5;p3,2,5;p3,2,5;p3,2,5");
        Check.all("least", 3, what -> x.least(what), 24, 1, 1);
        Check.due("many()", x.many(), 40320);
        Check.all("order", 8, k -> x.order(k), 0, 1, 2, 3, 4, 5, 6, 7);
        Check.all("must", 8, job -> x.must(job), 0, 0, 0, 0, 0, 0, 0, 0);
        Check.all("room", 8, job -> x.room(job), 14, 14, 14, 14, 14, 14, 14, 14);
        Check.all("gain", 8, job -> x.gain(job), 2, 2, 2, 2, 2, 2, 2, 2);
    }

    /** Tails that leave one order alone: each one ends just in time. */
    private static void rowOfTails() {
        BenchWithTails x = of("p0,1,2;p0,1,1;p0,1,3;p0,1,0");
        Check.all("least", 3, what -> x.least(what), 4, 1, 1);
        Check.due("many()", x.many(), 1);
        Check.all("order", 4, k -> x.order(k), 2, 0, 1, 3);
        Check.all("must", 4, job -> x.must(job), 4, 5, 0, 7);
        x.set(1, 3, 0);
        Check.due("many(), two free", x.many(), 2);
        Check.all("order, two free", 4, k -> x.order(k), 2, 0, 1, 3);
        Check.all("must, two free", 4, job -> x.must(job), 4, 5, 0, 5);
        Check.all("room, two free", 4, job -> x.room(job), 1, 3, 0, 3);
    }

    /** Jobs found by climbing: of the first many NODES follow, of the second many levels are open. */
    private static void manyNodes() {
        BenchWithTails x = of("h2,11,15;s34,2,30;d8,13,1;d11,12,6;h20,11,4;d12,12,3;r59,2,32;h3,10,2");
        int[] search = Oracle.of(x).search();
        Check.due("there are hundreds of NODES", search[1] > 250 ? 1 : 0, 1);
        Check.all("least", 3, what -> x.least(what), search);
        BenchWithTails deep = of("m46,1,46;m40,2,45;p17,18,31;r10,19,8;m44,1,47;d32,12,13;s10,20,13;r15,16,40");
        Check.all("least, deep", 3, what -> deep.least(what), Oracle.of(deep).search());
    }

    /** What was found is found anew as JOBS change. */
    private static void fresh() {
        BenchWithTails x = of("p0,5,1;p2,2,10");
        Check.due("least(0)", x.least(0), 14);
        x.image();
        x.set(0, 2, 6);
        Check.due("least(0) after set", x.least(0), 14);
        Check.due("room(0) after set", x.room(0), 7);
        x.set(1, 1, 4);
        Check.due("least(0) after set", x.least(0), 16);
        x.job(0, 0, 1, 60);
        Check.due("least(0) after job", x.least(0), 61);
        x.drop(2);
        Check.due("least(0) after drop", x.least(0), 16);
        Check.text(x, "p1,1,60", 3);
        Check.due("least(0) after text", x.least(0), 62);
        x.back();
        Check.due("least(0) after back", x.least(0), 14);
        Check.due("many() after back", x.many(), 1);
        Check.due("drawn", x.drawn(1, 30) > 14 ? 1 : 0, 1);
        Check.due("gain(0)", x.gain(0), 0);
        Check.all("least after those in thought", 3, what -> x.least(what), 14, 2, 2);
        Check.all("room after those in thought", 2, job -> x.room(job), 8, 0);
    }

    private static void rowsAreLaidAnew() {
        BenchWithTails x = of("p0,1,2;p0,1,1;p0,1,3");
        Check.all("order", 3, k -> x.order(k), 2, 0, 1);
        Check.all("order again", 3, k -> x.order(k), 2, 0, 1);
        x.sheet(0, 1, 3);
        x.put(0, 0, 1);
        x.put(0, 2, 2);
        Check.due("judge of 1 0 2", x.judge(0, 0), 6);
        Check.all("order after judge", 3, k -> x.order(k), 2, 0, 1);
        x.set(1, 3, 9);
        Check.all("order after set", 3, k -> x.order(k), 1, 0, 2);
        x.judge(0, 0);
        x.film(1);
        Check.all("film after judge", 3, k -> x.item(1, k), 1, 0, 2);
        x.drop(0);
        Check.all("order after drop", 2, k -> x.order(k), 0, 1);
    }

    /** Each of these as the first call after JOBS are told. */
    private static void eachAlone() {
        String text = "p0,5,1;p2,2,10";
        Check.due("many() first", of(text).many(), 1);
        Check.due("order(0) first", of(text).order(0), 1);
        Check.due("must(0) first", of(text).must(0), 2);
        Check.due("room(0) first", of(text).room(0), 8);
        Check.due("gain(1) first", of(text).gain(1), 8);
        Check.due("least(2) first", of(text).least(2), 2);
        BenchWithTails x = of(text);
        x.film(0);
        Check.due("film first", x.item(0, 0), 4);
    }

    private static void roomIsCut() {
        BenchWithTails x = of("p0,1,0;m60,20,60");
        Check.due("least(0)", x.least(0), 63 + 25 + 120);
        Check.due("room(0) is 99 at most", x.room(0), 99);
        Check.due("room(1)", x.room(1), 0);
        x.set(1, 3, 5);
        x.set(1, 2, 4);
        // LEAST 63 + 5 + 10 = 78: the other may begin at 77.
        Check.due("room(0)", x.room(0), 77);
        x.set(0, 0, 3);
        x.set(0, 1, 21);
        // DAWN: COMES at 10, COOLS 5: it may begin at 72, behind the other.
        Check.due("room(0) is of when it COMES", x.room(0), 62);
    }
}
