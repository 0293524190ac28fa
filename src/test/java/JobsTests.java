/** Promises 1 to 8: a new object, feed, text, job, set, told, drop, taken. */
public final class JobsTests {
    private static final int NONE = -1, BAD = -2, STATE = -3, FULL = -4, MISSING = -11, OUTSIDE = -12, OTHER = -13;
    private static final int MIN = Scenes.MIN, MAX = Scenes.MAX;
    private static final String LETTERS = "prhdms";

    private JobsTests() {
    }

    public static void main(String[] args) {
        constants();
        newObjectHasNoJobs();
        newObjectHasNothingElse();
        objectsAreApart();
        feedTakesOneToFive();
        feedTakesBytesFrom0To255();
        feedRefusesBad();
        feedFull();
        textTakesItems();
        textTakesTheEndsOfNumbers();
        textFaultAtTheFirstByte();
        textFaultInItems();
        textFaultAtTheEnd();
        textFaultOfANumber();
        textFaultBehindItems();
        textOfAFullTape();
        textAfterAFaultChangesNothing();
        textFull();
        textEmptiesTheTape();
        jobTakesTheEnds();
        jobRefuses();
        jobFull();
        setTakesTheEnds();
        setRefuses();
        toldByKind();
        toldCuts();
        toldRefuses();
        dropMovesNumbers();
        dropOfEight();
        dropRefuses();
        taken();
        takenRefuses();
        Check.end("JobsTests");
    }

    private static void jobIs(BenchWithTails x, int job, long... want) {
        Check.all("told(" + job + ")", what -> x.told(job, what), want);
    }

    // ---- promise 1: a new object.

    private static void constants() {
        Check.due("NONE", BenchWithTails.NONE, -1);
        Check.due("BAD", BenchWithTails.BAD, -2);
        Check.due("STATE", BenchWithTails.STATE, -3);
        Check.due("FULL", BenchWithTails.FULL, -4);
        Check.due("NO", BenchWithTails.NO, -4611686018427387904L);
    }

    private static void newObjectHasNoJobs() {
        BenchWithTails x = new BenchWithTails();
        Check.all("count", what -> x.count(what), 0, 0, 0);
        Check.due("told(0, 0)", x.told(0, 0), BAD);
        Check.due("greedy(-1, 0)", x.greedy(-1, 0), 0);
        Check.due("greedy(-1, 1)", x.greedy(-1, 1), 0);
        Check.due("greedy(0, 0)", x.greedy(0, 0), OUTSIDE);
        Check.all("breaking", what -> x.breaking(what), 0, 0);
        Check.due("critical(0)", x.critical(0), STATE);
        Check.due("branch(0, 0)", x.branch(0, 0), STATE);
        Check.due("bound(1)", x.bound(1), BAD);
        Check.due("strongest(0)", x.strongest(0), STATE);
        Check.all("least", what -> x.least(what), 0, 1, 1);
        Check.due("many()", x.many(), 1);
        Check.due("order(0)", x.order(0), OUTSIDE);
        Check.due("must(0)", x.must(0), BAD);
        Check.due("drawn(1, 30)", x.drawn(1, 30), 0);
        Check.due("began(0)", x.began(0), BAD);
        Check.due("job(0, 0, 1, 0)", x.job(0, 0, 1, 0), 0);
    }

    private static void newObjectHasNothingElse() {
        BenchWithTails x = new BenchWithTails();
        Check.all("bench", what -> x.bench(what), 0, NONE, 0, 0);
        Check.due("back()", x.back(), STATE);
        Check.due("text()", x.text(), -100);
        for (int sheet = 0; sheet < 4; sheet++) {
            Check.due("put in " + sheet, x.put(sheet, 0, 1), MISSING);
            Check.due("item of " + sheet, x.item(sheet, 0), BenchWithTails.NO);
            Check.due("judge of " + sheet, x.judge(sheet, 0), MISSING);
            Check.due("copy of " + sheet, x.copy(sheet, 0, sheet, 0, 0), MISSING);
        }
    }

    private static void objectsAreApart() {
        String alone = State.of(new BenchWithTails());
        BenchWithTails x = Scenes.full();
        Check.due("a new one beside a full one", State.of(new BenchWithTails()), alone);
        BenchWithTails y = new BenchWithTails();
        Check.due("JOBS of the other", y.count(0), 0);
        Check.due("THE TAPE of the other", y.count(2), 0);
        Check.due("NOW of the other", y.bench(0), 0);
        Check.due("THE IMAGE of the other", y.back(), STATE);
        Check.due("a SHEET of the other", y.item(0, 0), BenchWithTails.NO);
        y.job(0, 1, 1, 1);
        y.sheet(0, 0, 1);
        Check.due("the full one", State.of(x), State.of(Scenes.full()));
    }

    // ---- promise 2: feed.

    private static void feedTakesOneToFive() {
        BenchWithTails x = new BenchWithTails();
        Check.due("feed 5", x.feed(5, 'r', '1', '2', ',', '3'), 5);
        Check.due("feed 4", x.feed(4, ',', '4', '5', ';', 'x'), 9);
        Check.due("feed 3", x.feed(3, 'p', '6', ',', 'x', 'x'), 12);
        Check.due("feed 2", x.feed(2, '7', ',', 'x', 'x', 'x'), 14);
        Check.due("feed 1", x.feed(1, '8', 'x', 'x', 'x', 'x'), 15);
        Check.due("count(2)", x.count(2), 15);
        Check.due("text()", x.text(), 2);
        jobIs(x, 0, 1, 12, 3, 45);
        jobIs(x, 1, 0, 6, 7, 8);
    }

    private static void feedTakesBytesFrom0To255() {
        BenchWithTails x = new BenchWithTails();
        Check.due("feed of 0", x.feed(5, 0, 0, 0, 0, 0), 5);
        Check.due("feed of 255", x.feed(5, 255, 255, 255, 255, 255), 10);
        Check.due("feed of 255 not asked", x.feed(1, 0, 255, 255, 255, 255), 11);
        // What lies 256 off a byte that could stand there can't.
        Check.text(new BenchWithTails(), "" + (char) ('p' - 'p'), -100);
        Check.text(new BenchWithTails(), "p1,1,1" + (char) 255, -106);
        Check.text(new BenchWithTails(), "p1,1,1" + (char) (';' + 128), -106);
    }

    private static void feedRefusesBad() {
        for (int n : new int[] {0, 6, -1, MIN, MAX}) {
            Check.refused(Scenes::busy, "feed n " + n, x -> x.feed(n, 1, 1, 1, 1, 1), BAD);
            Check.refused(Scenes::full, "feed n " + n + " to a full one", x -> x.feed(n, 1, 1, 1, 1, 1), BAD);
        }
        for (int v : new int[] {-1, 256, 'p' + 256, MIN, MAX}) {
            for (int n = 1; n <= 5; n++) {
                int of = n;
                Check.refused(Scenes::busy, "feed " + n + ", a " + v, x -> x.feed(of, v, 0, 0, 0, 0), BAD);
                Check.refused(Scenes::busy, "feed " + n + ", b " + v, x -> x.feed(of, 0, v, 0, 0, 0), BAD);
                Check.refused(Scenes::busy, "feed " + n + ", c " + v, x -> x.feed(of, 0, 0, v, 0, 0), BAD);
                Check.refused(Scenes::busy, "feed " + n + ", d " + v, x -> x.feed(of, 0, 0, 0, v, 0), BAD);
                Check.refused(Scenes::busy, "feed " + n + ", e " + v, x -> x.feed(of, 0, 0, 0, 0, v), BAD);
            }
            Check.refused(Scenes::full, "feed a " + v + " to a full one", x -> x.feed(1, v, 0, 0, 0, 0), BAD);
            Check.refused(Scenes::full, "feed e " + v + " to a full one", x -> x.feed(1, 0, 0, 0, 0, v), BAD);
        }
    }

    private static BenchWithTails tapeOf(int size) {
        BenchWithTails x = new BenchWithTails();
        Scenes.feed(x, "p10,1,0;r11,2,3;h12,4,5;d19,6,7;m14,8,9;s5,9,8;p7,3,1;r3,2,0".substring(0, size));
        return x;
    }

    private static void feedFull() {
        for (int n = 1; n <= 5; n++) {
            int of = n;
            Check.due("feed of the last " + n, tapeOf(60 - n).feed(n, 1, 1, 1, 1, 1), 60);
            Check.due("feed of the last but one " + n, tapeOf(59 - n).feed(n, 1, 1, 1, 1, 1), 59);
            for (int over = 1; over <= n; over++) {
                int size = 60 - n + over;
                Check.refused(() -> tapeOf(size), "feed " + n + " at " + size,
                        x -> x.feed(of, 'p', '1', ',', '2', ','), FULL);
            }
        }
        Check.refused(Scenes::full, "feed to a full one", x -> x.feed(1, 'p', 0, 0, 0, 0), FULL);
        BenchWithTails x = tapeOf(58);
        x.feed(3, 'p', 'p', 'p', 0, 0);
        Check.due("feed 2 behind a refused one", x.feed(2, ',', '0', 0, 0, 0), 60);
        Check.due("text()", x.text(), 8);
    }

    // ---- promise 3: text.

    private static void textTakesItems() {
        BenchWithTails x = new BenchWithTails();
        Check.text(x, "p7,8,9", 1);
        Check.text(x, "r10,11,12;h13,14,15;d16,17,18", 4);
        Check.text(x, "m1,2,3;s4,5,6", 6);
        jobIs(x, 0, 0, 7, 8, 9);
        jobIs(x, 1, 1, 10, 11, 12);
        jobIs(x, 2, 2, 13, 14, 15);
        jobIs(x, 3, 3, 16, 17, 18);
        jobIs(x, 4, 4, 1, 2, 3);
        jobIs(x, 5, 5, 4, 5, 6);
        BenchWithTails y = Scenes.two();
        y.go(10);
        Check.text(y, "p1,1,1", 3);
        Check.all("bench after text", what -> y.bench(what), 0, NONE, 0, 0);
        Check.all("began after text", job -> y.began(job), NONE, NONE, NONE);
    }

    private static void textTakesTheEndsOfNumbers() {
        BenchWithTails x = new BenchWithTails();
        Check.text(x, "p0,1,0", 1);
        Check.text(x, "p00,01,00", 2);
        Check.text(x, "p60,20,60", 3);
        Check.text(x, "p9,9,9;p10,10,10;p59,19,59", 6);
        jobIs(x, 0, 0, 0, 1, 0);
        jobIs(x, 1, 0, 0, 1, 0);
        jobIs(x, 2, 0, 60, 20, 60);
        jobIs(x, 3, 0, 9, 9, 9);
        jobIs(x, 4, 0, 10, 10, 10);
        jobIs(x, 5, 0, 59, 19, 59);
    }

    private static void fault(String text, int place) {
        Check.text(new BenchWithTails(), text, -100 - place);
    }

    private static void textFaultAtTheFirstByte() {
        fault("", 0);
        for (int v = 0; v < 256; v++) {
            if (LETTERS.indexOf(v) < 0) {
                fault((char) v + "1,1,1", 0);
            } else {
                Check.text(new BenchWithTails(), (char) v + "1,1,1", 1);
            }
        }
    }

    /** Each byte at each place of one of ITEMS, if it can't stand there. */
    private static void textFaultInItems() {
        for (int v = 0; v < 256; v++) {
            boolean digit = v >= '0' && v <= '9';
            if (!digit) {
                fault("p" + (char) v + "1,1,1", 1);
                fault("p1," + (char) v + "1,1", 3);
                fault("p1,1," + (char) v + "1", 5);
            }
            if (v != ',') {
                fault("p12" + (char) v + "1,1", 3);
                fault("p1,12" + (char) v + "1", 5);
            }
            if (v != ',' && !digit) {
                fault("p1" + (char) v + "1,1", 2);
                fault("p1,1" + (char) v + "1", 4);
            }
            if (v != ';') {
                fault("p1,1,12" + (char) v + "p1,1,1", 7);
            }
            if (v != ';' && !digit) {
                fault("p1,1,1" + (char) v + "p1,1,1", 6);
            }
            if (LETTERS.indexOf(v) < 0) {
                fault("p1,1,1;" + (char) v + "1,1,1", 7);
            }
        }
    }

    private static void textFaultAtTheEnd() {
        String items = "p10,11,12;r1,2,3";
        Check.text(new BenchWithTails(), items, 2);
        for (int size = 0; size < items.length(); size++) {
            boolean whole = size == 8 || size == 9;
            Check.text(new BenchWithTails(), items.substring(0, size), whole ? 1 : -100 - size);
        }
        fault("p10,11,12;r1,2,3;", 17);
    }

    private static void textFaultOfANumber() {
        for (int v = 0; v <= 99; v++) {
            for (String zero : v < 10 ? new String[] {"", "0"} : new String[] {""}) {
                String number = zero + v;
                boolean upTo60 = v <= 60;
                Check.text(new BenchWithTails(), "p" + number + ",1,1", upTo60 ? 1 : -101);
                Check.text(new BenchWithTails(), "p1," + number + ",1", v >= 1 && v <= 20 ? 1 : -103);
                Check.text(new BenchWithTails(), "p1,1," + number, upTo60 ? 1 : -105);
            }
        }
        fault("p61", 1);
        fault("p61,", 1);
        fault("p61;", 1);
        fault("p610,1,1", 1);
        fault("p010,1,1", 3);
        fault("p600,1,1", 3);
        fault("p1,0", 3);
        fault("p1,21", 3);
        fault("p1,0x", 3);
        fault("p1,200,1", 5);
        fault("p1,1,600", 7);
        fault("p1,1,610", 5);
        fault("p99,99,99", 1);
        fault("p9,99,99", 3);
    }

    private static void textFaultBehindItems() {
        fault("p1,1,1;r2,2,2;x", 14);
        fault("p1,1,1;r2,2,2;h70,1,1", 15);
        fault("p1,1,1;;r2,2,2", 7);
        fault("p1,1,1; r2,2,2", 7);
        fault("p1,1,1 ;r2,2,2", 6);
        fault("p1,1,1,", 6);
        fault("p1,1,1r2,2,2", 6);
        fault(";p1,1,1", 0);
        fault("p0,1,0;p0,1,0;p0,1,0;p0,1,0;p0,1,0;p0,1,0;p0,1,0;p0,1,0;", 56);
        fault("p0,1,0;p0,1,0;p0,1,0;p0,1,0;p0,1,0;p0,1,0;p0,1,0;p0,1,0;p0,1", 60);
    }

    private static void textOfAFullTape() {
        BenchWithTails x = tapeOf(60);
        Check.due("count(2)", x.count(2), 60);
        Check.due("text() of 60 bytes", x.text(), 8);
        jobIs(x, 0, 0, 10, 1, 0);
        jobIs(x, 7, 1, 3, 2, 0);
        String seven = "p10,10,10;p10,10,10;p10,10,10;p10,10,10;p10,10,10;p10,10,1";
        fault(seven + ";x", 59);
        fault(seven + "1;", 60);
        fault(seven + "11", 59);
        fault("x" + seven + ";", 0);
        fault("p10,10,10;p10,10,10;p10,10,10;p10,10,10;p10,10,10;p10,10,61", 57);
    }

    private static void textAfterAFaultChangesNothing() {
        for (String wrong : new String[] {"x", "p1,1,1;r2,2,2;h70,1,1", "p1,1,1;"}) {
            Check.refused(() -> withoutTape(Scenes.busy()), "text() of " + wrong, x -> fed(x, wrong).text(),
                    wrong.equals("x") ? -100 : wrong.length() == 7 ? -107 : -115);
        }
        Check.refused(() -> withoutTape(Scenes.busy()), "text() of nothing", x -> x.text(), -100);
        Check.refused(() -> withoutTape(Scenes.full()), "text() of nothing", x -> x.text(), -100);
    }

    private static BenchWithTails fed(BenchWithTails x, String text) {
        Scenes.feed(x, text);
        return x;
    }

    /** The text that empties THE TAPE is one that is refused, so that all else stays. */
    private static BenchWithTails withoutTape(BenchWithTails x) {
        if (x.count(2) < 60) {
            x.feed(1, 'x', 0, 0, 0, 0);
        }
        x.text();
        return x;
    }

    private static void textFull() {
        BenchWithTails x = Scenes.of("p0,1,0;p0,1,0;p0,1,0;p0,1,0;p0,1,0;p0,1,0;p0,1,0");
        Check.due("count(0)", x.count(0), 7);
        Check.text(x, "p0,1,0;p0,1,0", FULL);
        Check.due("none of them comes", x.count(0), 7);
        Check.text(x, "p0,1,0;p0,1,", -112);
        Check.text(x, "r9,1,0", 8);
        Check.due("told(7, 1)", x.told(7, 1), 9);
        Check.text(x, "p0,1,0", FULL);
        Check.text(x, "p0,1,0;", -107);
        Check.text(x, "", -100);
        Check.text(x, "p0,1,0;p0,1,0;p0,1,0;p0,1,0;p0,1,0;p0,1,0;p0,1,0;p0,1,0", FULL);
        String eight = "p0,1,0;p0,1,0;p0,1,0;p0,1,0;p0,1,0;p0,1,0;p0,1,0;p0,1,0";
        Check.text(new BenchWithTails(), eight, 8);
        Check.text(Scenes.one(), eight, FULL);
        Check.refused(() -> withoutTape(Scenes.full()), "text() without room", y -> fed(y, "p0,1,0").text(), FULL);
        Check.refused(() -> withoutTape(Scenes.busy()), "text() of eight", y -> fed(y, eight).text(), FULL);
    }

    private static void textEmptiesTheTape() {
        BenchWithTails x = new BenchWithTails();
        Check.text(x, "p0,1,0;", -107);
        Check.due("text() of the empty one", x.text(), -100);
        Check.text(x, "p0,1,0", 1);
        Check.due("text() of the empty one", x.text(), -100);
        Check.due("feed behind text()", x.feed(1, 'p', 0, 0, 0, 0), 1);
        BenchWithTails full = Scenes.full();
        Check.due("text() of a full one", full.text(), FULL);
        Check.due("feed behind FULL", full.feed(5, 1, 1, 1, 1, 1), 5);
        Check.due("text()", full.text(), -100);
        Scenes.feed(full, "p10,1,0;r11,2,3;h12,4,5;d19,6,7;m14,8,9;s5,9,8;p7,3,1;r3,2,0");
        Check.due("it takes 60 again", full.count(2), 60);
    }

    // ---- promise 4: job.

    private static void jobTakesTheEnds() {
        BenchWithTails x = new BenchWithTails();
        Check.due("job", x.job(0, 0, 1, 0), 0);
        Check.due("job", x.job(5, 60, 20, 60), 1);
        Check.due("job", x.job(1, 59, 19, 59), 2);
        Check.due("job", x.job(4, 1, 2, 1), 3);
        jobIs(x, 0, 0, 0, 1, 0);
        jobIs(x, 1, 5, 60, 20, 60);
        jobIs(x, 2, 1, 59, 19, 59);
        jobIs(x, 3, 4, 1, 2, 1);
        x.go(4);
        Check.due("job", x.job(2, 3, 4, 5), 4);
        Check.all("bench after job", what -> x.bench(what), 0, NONE, 0, 0);
        Check.due("began(0) after job", x.began(0), NONE);
    }

    private static void jobRefuses() {
        for (int v : new int[] {-1, 61, MIN, MAX}) {
            Check.refused(Scenes::busy, "job kind " + v, x -> x.job(v, 0, 1, 0), BAD);
            Check.refused(Scenes::busy, "job release " + v, x -> x.job(0, v, 1, 0), BAD);
            Check.refused(Scenes::busy, "job work " + v, x -> x.job(0, 0, v, 0), BAD);
            Check.refused(Scenes::busy, "job tail " + v, x -> x.job(0, 0, 1, v), BAD);
        }
        Check.refused(Scenes::busy, "job kind 6", x -> x.job(6, 0, 1, 0), BAD);
        Check.refused(Scenes::busy, "job work 0", x -> x.job(0, 0, 0, 0), BAD);
        Check.refused(Scenes::busy, "job work 21", x -> x.job(0, 0, 21, 0), BAD);
    }

    private static void jobFull() {
        BenchWithTails x = new BenchWithTails();
        for (int job = 0; job < 8; job++) {
            Check.due("job", x.job(0, job, 1, 0), job);
        }
        Check.due("the ninth", x.job(0, 9, 1, 0), FULL);
        Check.due("count(0)", x.count(0), 8);
        jobIs(x, 7, 0, 7, 1, 0);
        x.drop(3);
        Check.due("job in its room", x.job(1, 50, 1, 0), 7);
        Check.refused(Scenes::full, "job without room", y -> y.job(0, 1, 1, 1), FULL);
        Check.refused(Scenes::full, "kind 6 without room", y -> y.job(6, 1, 1, 1), BAD);
        Check.refused(Scenes::full, "release 61 without room", y -> y.job(0, 61, 1, 1), BAD);
        Check.refused(Scenes::full, "work 21 without room", y -> y.job(0, 1, 21, 1), BAD);
        Check.refused(Scenes::full, "tail 61 without room", y -> y.job(0, 1, 1, 61), BAD);
    }

    // ---- promise 5: set.

    private static void setTakesTheEnds() {
        int[] least = {0, 0, 1, 0};
        int[] most = {5, 60, 20, 60};
        for (int job = 0; job < 8; job += 7) {
            for (int w = 0; w < 4; w++) {
                BenchWithTails x = Scenes.eightAlike();
                int what = w;
                int was = x.told(job, what);
                Check.due("set to the most", x.set(job, what, most[what]), was);
                Check.due("told", x.told(job, what), most[what]);
                Check.due("set to the least", x.set(job, what, least[what]), most[what]);
                Check.due("told", x.told(job, what), least[what]);
                Check.due("set one more", x.set(job, what, least[what] + 1), least[what]);
                Check.due("told", x.told(job, what), least[what] + 1);
                Check.due("set as it is", x.set(job, what, least[what] + 1), least[what] + 1);
                x.set(job, what, was);
                Check.due("nothing else becomes so", State.of(x), State.of(Scenes.eightAlike()));
            }
        }
        for (int what = 0; what < 4; what++) {
            BenchWithTails x = Scenes.busy();
            x.set(1, what, x.told(1, what));
            Check.all("bench after set as it is", w -> x.bench(w), 0, NONE, 0, 0);
            Check.all("began after set as it is", job -> x.began(job), NONE, NONE, NONE);
        }
    }

    private static void setRefuses() {
        for (int job : new int[] {-1, 3, 7, 8, MIN, MAX}) {
            Check.refused(Scenes::busy, "set job " + job, x -> x.set(job, 1, 1), BAD);
        }
        Check.refused(Scenes::full, "set job 8", x -> x.set(8, 1, 1), BAD);
        Check.refused(Scenes::full, "set job -1", x -> x.set(-1, 1, 1), BAD);
        Check.refused(BenchWithTails::new, "set of none", x -> x.set(0, 1, 1), BAD);
        for (int what : new int[] {-1, 4, 5, 6, MIN, MAX}) {
            Check.refused(Scenes::busy, "set what " + what, x -> x.set(0, what, 1), BAD);
        }
        int[][] bad = {{-1, 6, 61, MIN, MAX}, {-1, 61, MIN, MAX}, {-1, 0, 21, 61, MIN, MAX}, {-1, 61, MIN, MAX}};
        for (int what = 0; what < 4; what++) {
            for (int v : bad[what]) {
                int w = what;
                Check.refused(Scenes::busy, "set " + w + " to " + v, x -> x.set(0, w, v), BAD);
            }
        }
    }

    // ---- promise 6: told.

    private static void toldByKind() {
        int[][][] want = {
            {{0, 1, 0}, {0, 1, 5}, {0, 1, 0}, {0, 1, 5}, {3, 1, 0}, {3, 1, 0}},
            {{60, 20, 60}, {60, 20, 65}, {60, 25, 60}, {30, 20, 65}, {63, 25, 120}, {63, 24, 120}},
            {{59, 7, 1}, {59, 7, 6}, {59, 8, 1}, {29, 7, 6}, {62, 8, 2}, {62, 7, 2}},
        };
        int[][] told = {{0, 1, 0}, {60, 20, 60}, {59, 7, 1}};
        for (int i = 0; i < told.length; i++) {
            BenchWithTails x = new BenchWithTails();
            for (int kind = 0; kind < 6; kind++) {
                x.job(kind, told[i][0], told[i][1], told[i][2]);
                jobIs(x, kind, kind, told[i][0], told[i][1], told[i][2],
                        want[i][kind][0], want[i][kind][1], want[i][kind][2]);
            }
        }
    }

    private static void toldCuts() {
        int[] heavy = {1, 2, 3, 5, 6, 7, 8, 10, 11, 12, 13, 15, 16, 17, 18, 20, 21, 22, 23, 25};
        int[] split = {1, 1, 2, 4, 5, 6, 7, 9, 10, 11, 12, 14, 15, 16, 17, 19, 20, 21, 22, 24};
        BenchWithTails x = Scenes.of("h0,1,0;m0,1,0;s0,1,0");
        for (int work = 1; work <= 20; work++) {
            for (int job = 0; job < 3; job++) {
                x.set(job, 2, work);
            }
            Check.due("HEAVY " + work, x.told(0, 5), heavy[work - 1]);
            Check.due("DAMP " + work, x.told(1, 5), heavy[work - 1]);
            Check.due("SPLIT " + work, x.told(2, 5), split[work - 1]);
        }
        BenchWithTails y = Scenes.of("d0,1,0");
        int[] half = {0, 0, 1, 1, 2, 2, 3};
        for (int release = 0; release < half.length; release++) {
            y.set(0, 1, release);
            Check.due("DAWN " + release, y.told(0, 4), half[release]);
        }
    }

    private static void toldRefuses() {
        for (int what : new int[] {-1, 7, MIN, MAX}) {
            Check.refused(Scenes::busy, "told what " + what, x -> x.told(0, what), BAD);
        }
        for (int what = 0; what < 7; what++) {
            int w = what;
            for (int job : new int[] {-1, 3, 7, 8, MIN, MAX}) {
                Check.refused(Scenes::busy, "told job " + job, x -> x.told(job, w), BAD);
            }
            Check.refused(Scenes::full, "told job 8", x -> x.told(8, w), BAD);
            Check.refused(BenchWithTails::new, "told of none", x -> x.told(0, w), BAD);
        }
    }

    // ---- promise 7: drop.

    private static void dropMovesNumbers() {
        BenchWithTails x = Scenes.of("p1,1,1;r2,2,2;h3,3,3;d4,4,4");
        x.go(5);
        Check.due("drop(1)", x.drop(1), 3);
        Check.all("bench after drop", what -> x.bench(what), 0, NONE, 0, 0);
        Check.all("began after drop", job -> x.began(job), NONE, NONE, NONE);
        jobIs(x, 0, 0, 1, 1, 1);
        jobIs(x, 1, 2, 3, 3, 3);
        jobIs(x, 2, 3, 4, 4, 4, 2, 4, 9);
        Check.due("told(3, 0)", x.told(3, 0), BAD);
        Check.due("drop of the last", x.drop(2), 2);
        jobIs(x, 0, 0, 1, 1, 1);
        jobIs(x, 1, 2, 3, 3, 3);
        Check.due("drop of the first", x.drop(0), 1);
        jobIs(x, 0, 2, 3, 3, 3);
        Check.due("drop of the only one", x.drop(0), 0);
        Check.due("drop of none", x.drop(0), BAD);
        Check.due("job after all are dropped", x.job(0, 1, 1, 1), 0);
    }

    private static void dropOfEight() {
        for (int job = 0; job < 8; job++) {
            BenchWithTails x = new BenchWithTails();
            for (int i = 0; i < 8; i++) {
                x.job(0, i, 1 + i, 2 * i);
            }
            Check.due("drop(" + job + ") of eight", x.drop(job), 7);
            for (int i = 0; i < 7; i++) {
                int was = i < job ? i : i + 1;
                jobIs(x, i, 0, was, 1 + was, 2 * was);
            }
            Check.due("told(7, 0)", x.told(7, 0), BAD);
        }
    }

    private static void dropRefuses() {
        for (int job : new int[] {-1, 3, 7, 8, MIN, MAX}) {
            Check.refused(Scenes::busy, "drop " + job, x -> x.drop(job), BAD);
        }
        Check.refused(Scenes::full, "drop 8", x -> x.drop(8), BAD);
        Check.refused(Scenes::full, "drop -1", x -> x.drop(-1), BAD);
        Check.refused(BenchWithTails::new, "drop of none", x -> x.drop(0), BAD);
    }

    // ---- promise 8: taken.

    private static void taken() {
        BenchWithTails x = new BenchWithTails();
        for (int kind = 0; kind < 6; kind++) {
            x.job(kind, 10, 8, 3);
        }
        int[][] want = {
            {11, OTHER, OTHER, OTHER, OTHER, OTHER},
            {16, 16, OTHER, OTHER, OTHER, OTHER},
            {13, OTHER, 13, OTHER, OTHER, OTHER},
            {16, 16, OTHER, 16, OTHER, OTHER},
            {16, OTHER, 16, OTHER, 16, OTHER},
            {15, OTHER, 15, OTHER, 15, 15},
        };
        for (int job = 0; job < 6; job++) {
            for (int k = 0; k < 6; k++) {
                Check.due("taken(" + job + ", " + k + ")", x.taken(job, k), want[job][k]);
            }
        }
        Check.due("the least", Scenes.of("p0,1,0").taken(0, 0), 1);
        Check.due("the most", Scenes.of("m60,20,60").taken(0, 0), 145);
        Check.due("the most of SPLIT", Scenes.of("s60,20,60").taken(0, 5), 144);
        Check.due("the last of eight", Scenes.eightGreatest().taken(7, 2), 145);
    }

    private static void takenRefuses() {
        for (int job : new int[] {-1, 3, 7, 8, MIN, MAX}) {
            Check.refused(Scenes::busy, "taken job " + job, x -> x.taken(job, 0), BAD);
            Check.refused(Scenes::busy, "taken job " + job + " for another", x -> x.taken(job, 5), BAD);
        }
        for (int k : new int[] {-1, 6, MIN, MAX}) {
            Check.refused(Scenes::busy, "taken kind " + k, x -> x.taken(0, k), BAD);
        }
        Check.refused(Scenes::full, "taken job 8", x -> x.taken(8, 0), BAD);
        Check.refused(BenchWithTails::new, "taken of none", x -> x.taken(0, 0), BAD);
        Check.refused(Scenes::busy, "taken for another", x -> x.taken(0, 1), OTHER);
        Check.refused(Scenes::busy, "taken for one under it", x -> x.taken(1, 3), OTHER);
        Check.refused(Scenes::busy, "taken for one beside it", x -> x.taken(1, 2), OTHER);
    }
}
