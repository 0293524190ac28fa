/** Promises 1 to 8: jobs. */
public final class JobsTests {
    private static final int BAD = -2, STATE = -3, FULL = -4;

    private JobsTests() {
    }

    public static void main(String[] args) {
        newObject();
        feed();
        textTakesItems();
        textFaults();
        textFull();
        job();
        set();
        told();
        drop();
        taken();
        Check.end("JobsTests");
    }

    private static void newObject() {
        BenchWithTails x = new BenchWithTails();
        Check.due("NONE", BenchWithTails.NONE, -1);
        Check.due("BAD", BenchWithTails.BAD, -2);
        Check.due("STATE", BenchWithTails.STATE, -3);
        Check.due("FULL", BenchWithTails.FULL, -4);
        Check.due("NO", BenchWithTails.NO, -4611686018427387904L);
        Check.due("count(0)", x.count(0), 0);
        Check.due("count(1)", x.count(1), 0);
        Check.due("count(2)", x.count(2), 0);
        Check.due("told(0, 0)", x.told(0, 0), BAD);
        Check.due("bench(0)", x.bench(0), 0);
        Check.due("bench(1)", x.bench(1), -1);
        Check.due("bench(2)", x.bench(2), 0);
        Check.due("bench(3)", x.bench(3), 0);
        Check.due("back()", x.back(), STATE);
        Check.due("least(0)", x.least(0), 0);
        Check.due("many()", x.many(), 1);
        for (int sheet = 0; sheet < 4; sheet++) {
            Check.due("put(" + sheet + ")", x.put(sheet, 0, 1), -11);
            Check.due("item(" + sheet + ")", x.item(sheet, 0), BenchWithTails.NO);
        }
    }

    private static void feed() {
        BenchWithTails x = new BenchWithTails();
        Check.due("feed 3", x.feed(3, 0, 255, 7, 0, 0), 3);
        for (int n : new int[] {0, 6, -1, Integer.MIN_VALUE, Integer.MAX_VALUE}) {
            Check.refused(x, "feed n " + n, () -> x.feed(n, 1, 1, 1, 1, 1), BAD);
        }
        for (int v : new int[] {-1, 256, Integer.MIN_VALUE, Integer.MAX_VALUE}) {
            Check.refused(x, "feed a " + v, () -> x.feed(1, v, 0, 0, 0, 0), BAD);
            Check.refused(x, "feed b " + v, () -> x.feed(1, 0, v, 0, 0, 0), BAD);
            Check.refused(x, "feed c " + v, () -> x.feed(1, 0, 0, v, 0, 0), BAD);
            Check.refused(x, "feed d " + v, () -> x.feed(1, 0, 0, 0, v, 0), BAD);
            Check.refused(x, "feed e " + v, () -> x.feed(1, 0, 0, 0, 0, v), BAD);
        }
        Check.due("feed to 58", Check.times(11, () -> x.feed(5, 1, 2, 3, 4, 5)), 58);
        Check.refused(x, "feed 3 at 58", () -> x.feed(3, 1, 1, 1, 1, 1), FULL);
        Check.due("feed 2 at 58", x.feed(2, 1, 1, 1, 1, 1), 60);
        Check.refused(x, "feed 1 at 60", () -> x.feed(1, 1, 1, 1, 1, 1), FULL);
        Check.refused(x, "feed BAD at 60", () -> x.feed(1, 1, 1, 1, 1, 256), BAD);
        feedKeepsOrder();
    }

    /** The bytes stand in the order in which they are told, and no more than n of them. */
    private static void feedKeepsOrder() {
        BenchWithTails x = new BenchWithTails();
        Check.due("feed 5", x.feed(5, 'r', '1', '2', ',', '3'), 5);
        Check.due("feed 4", x.feed(4, ',', '4', '5', ';', 'x'), 9);
        Check.due("feed 3", x.feed(3, 'p', '6', ',', 'x', 'x'), 12);
        Check.due("feed 2", x.feed(2, '7', ',', 'x', 'x', 'x'), 14);
        Check.due("feed 1", x.feed(1, '8', 'x', 'x', 'x', 'x'), 15);
        Check.due("text()", x.text(), 2);
        Check.all("told(0)", 4, what -> x.told(0, what), 1, 12, 3, 45);
        Check.all("told(1)", 4, what -> x.told(1, what), 0, 6, 7, 8);
    }

    private static void textTakesItems() {
        BenchWithTails x = new BenchWithTails();
        Check.text(x, "p0,1,0;r60,20,60;h05,09,00", 3);
        Check.text(x, "d1,2,3;m4,5,6;s7,8,9", 6);
        Check.all("told(0)", 4, what -> x.told(0, what), 0, 0, 1, 0);
        Check.all("told(1)", 4, what -> x.told(1, what), 1, 60, 20, 60);
        Check.all("told(2)", 4, what -> x.told(2, what), 2, 5, 9, 0);
        Check.all("told(3)", 4, what -> x.told(3, what), 3, 1, 2, 3);
        Check.all("told(4)", 4, what -> x.told(4, what), 4, 4, 5, 6);
        Check.all("told(5)", 4, what -> x.told(5, what), 5, 7, 8, 9);
        BenchWithTails y = new BenchWithTails();
        y.job(0, 9, 1, 1);
        y.go(10);
        Check.due("began(0)", y.began(0), 9);
        Check.text(y, "p1,1,1", 2);
        Check.due("NOW after text", y.bench(0), 0);
        Check.due("began(0) after text", y.began(0), -1);
    }

    private static void textFaults() {
        BenchWithTails x = new BenchWithTails();
        x.job(2, 3, 4, 5);
        x.go(7);
        String was = State.of(x);
        fault(x, "", 0);
        fault(x, ";", 0);
        fault(x, "P1,1,1", 0);
        fault(x, " p1,1,1", 0);
        fault(x, "1,1,1", 0);
        fault(x, "p", 1);
        fault(x, "p,", 1);
        fault(x, "px", 1);
        fault(x, "p-1,1,1", 1);
        fault(x, "p/", 1);
        fault(x, "p:", 1);
        fault(x, "p1", 2);
        fault(x, "p1;", 2);
        fault(x, "p60", 3);
        fault(x, "p61", 1);
        fault(x, "p99x", 1);
        fault(x, "p010,1,1", 3);
        fault(x, "p610,1,1", 1);
        fault(x, "p1,", 3);
        fault(x, "p1,,", 3);
        fault(x, "p1,0,1", 3);
        fault(x, "p1,00,1", 3);
        fault(x, "p1,21,1", 3);
        fault(x, "p1,0", 3);
        fault(x, "p1,1", 4);
        fault(x, "p1,1;", 4);
        fault(x, "p1,20", 5);
        fault(x, "p1,200,1", 5);
        fault(x, "p1,1,", 5);
        fault(x, "p1,1,;", 5);
        fault(x, "p1,1,61", 5);
        fault(x, "p1,1,1,", 6);
        fault(x, "p1,1,1 ", 6);
        fault(x, "p1,1,1p", 6);
        fault(x, "p1,1,111", 7);
        fault(x, "p1,1,1;", 7);
        fault(x, "p1,1,1;;", 7);
        fault(x, "p1,1,1; p1,1,1", 7);
        fault(x, "p1,1,1;r2,2,2;x", 14);
        fault(x, "p1,1,1;r2,2,2;h70,1,1", 15);
        fault(x, "p1,1,1\u00ff", 6);
        fault(x, "\u0000", 0);
        Check.due("the state after all FAULTS", State.of(x), was);
        fault(x, "p01,01,01;p01,01,01;p01,01,01;p01,01,01;p01,01,01;p01,01,01;", 60);
    }

    private static void fault(BenchWithTails x, String text, int place) {
        Check.text(x, text, -100 - place);
    }

    private static void textFull() {
        BenchWithTails x = new BenchWithTails();
        Check.text(x, "p0,1,0;p0,1,0;p0,1,0;p0,1,0;p0,1,0;p0,1,0;p0,1,0", 7);
        x.go(3);
        String was = State.of(x);
        Check.text(x, "p0,1,0;p0,1,0", FULL);
        Check.due("the state after FULL", State.of(x), was);
        Check.text(x, "p0,1,0;p0,1,", -112);
        Check.text(x, "r9,1,0", 8);
        Check.due("told(7, 1)", x.told(7, 1), 9);
        Check.text(x, "p0,1,0", FULL);
        Check.text(x, "p0,1,0;", -107);
        BenchWithTails y = new BenchWithTails();
        Check.text(y, "p0,1,0;p0,1,0;p0,1,0;p0,1,0;p0,1,0;p0,1,0;p0,1,0;p0,1,0", 8);
    }

    private static void job() {
        BenchWithTails x = new BenchWithTails();
        Check.due("job", x.job(0, 0, 1, 0), 0);
        Check.due("job", x.job(5, 60, 20, 60), 1);
        Check.all("told(0)", 4, what -> x.told(0, what), 0, 0, 1, 0);
        Check.all("told(1)", 4, what -> x.told(1, what), 5, 60, 20, 60);
        for (int v : new int[] {-1, 61, Integer.MIN_VALUE, Integer.MAX_VALUE}) {
            Check.refused(x, "job kind " + v, () -> x.job(v, 0, 1, 0), BAD);
            Check.refused(x, "job release " + v, () -> x.job(0, v, 1, 0), BAD);
            Check.refused(x, "job work " + v, () -> x.job(0, 0, v, 0), BAD);
            Check.refused(x, "job tail " + v, () -> x.job(0, 0, 1, v), BAD);
        }
        Check.refused(x, "job kind 6", () -> x.job(6, 0, 1, 0), BAD);
        Check.refused(x, "job work 0", () -> x.job(0, 0, 0, 0), BAD);
        Check.refused(x, "job work 21", () -> x.job(0, 0, 21, 0), BAD);
        x.go(4);
        Check.due("job", x.job(1, 2, 3, 4), 2);
        Check.due("NOW after job", x.bench(0), 0);
        Check.due("began(0) after job", x.began(0), -1);
        Check.due("bench(2) after job", x.bench(2), 0);
        Check.due("job to 8", Check.times(5, () -> x.job(0, 1, 1, 1)), 7);
        x.go(4);
        Check.refused(x, "job 9", () -> x.job(0, 1, 1, 1), FULL);
        Check.refused(x, "job 9, BAD", () -> x.job(0, 1, 21, 1), BAD);
    }

    private static void set() {
        BenchWithTails x = new BenchWithTails();
        Check.text(x, "p1,2,3;r4,5,6", 2);
        Check.due("set kind", x.set(0, 0, 4), 0);
        Check.due("set release", x.set(0, 1, 60), 1);
        Check.due("set work", x.set(0, 2, 20), 2);
        Check.due("set tail", x.set(0, 3, 60), 3);
        Check.all("told(0)", 7, what -> x.told(0, what), 4, 60, 20, 60, 63, 25, 120);
        Check.all("told(1)", 4, what -> x.told(1, what), 1, 4, 5, 6);
        x.go(9);
        Check.due("set, as it is", x.set(1, 3, 6), 6);
        Check.due("NOW after set", x.bench(0), 0);
        Check.due("began after set", x.began(1), -1);
        x.go(9);
        for (int job : new int[] {-1, 2, 8, Integer.MIN_VALUE, Integer.MAX_VALUE}) {
            Check.refused(x, "set job " + job, () -> x.set(job, 1, 1), BAD);
        }
        for (int what : new int[] {-1, 4, Integer.MIN_VALUE, Integer.MAX_VALUE}) {
            Check.refused(x, "set what " + what, () -> x.set(0, what, 1), BAD);
        }
        for (int what = 0; what < 4; what++) {
            int w = what;
            Check.refused(x, "set " + w + " -1", () -> x.set(0, w, -1), BAD);
            Check.refused(x, "set " + w + " 61", () -> x.set(0, w, 61), BAD);
        }
        Check.refused(x, "set kind 6", () -> x.set(0, 0, 6), BAD);
        Check.refused(x, "set work 0", () -> x.set(0, 2, 0), BAD);
        Check.refused(x, "set work 21", () -> x.set(0, 2, 21), BAD);
        Check.due("set to the least", x.set(0, 2, 1), 20);
        Check.due("set to the least", x.set(0, 1, 0), 60);
        Check.due("set to the least", x.set(0, 3, 0), 60);
        Check.due("set to the most kind", x.set(0, 0, 5), 4);
        Check.all("told(0)", 7, what -> x.told(0, what), 5, 0, 1, 0, 3, 1, 0);
    }

    private static void told() {
        BenchWithTails x = new BenchWithTails();
        for (int kind = 0; kind < 6; kind++) {
            x.job(kind, 9, 11, 7);
        }
        Check.all("told(0)", 7, what -> x.told(0, what), 0, 9, 11, 7, 9, 11, 7);
        Check.all("told(1)", 7, what -> x.told(1, what), 1, 9, 11, 7, 9, 11, 12);
        Check.all("told(2)", 7, what -> x.told(2, what), 2, 9, 11, 7, 9, 13, 7);
        Check.all("told(3)", 7, what -> x.told(3, what), 3, 9, 11, 7, 4, 11, 12);
        Check.all("told(4)", 7, what -> x.told(4, what), 4, 9, 11, 7, 12, 13, 14);
        Check.all("told(5)", 7, what -> x.told(5, what), 5, 9, 11, 7, 12, 12, 14);
        for (int work = 1; work <= 20; work++) {
            x.set(2, 2, work);
            x.set(4, 2, work);
            x.set(5, 2, work);
            Check.due("HEAVY " + work, x.told(2, 5), work + work / 4);
            Check.due("DAMP " + work, x.told(4, 5), work + work / 4);
            Check.due("SPLIT " + work, x.told(5, 5), work == 1 ? 1 : work + work / 4 - 1);
        }
        x.set(3, 1, 0);
        Check.due("DAWN at 0", x.told(3, 4), 0);
        x.set(3, 1, 1);
        Check.due("DAWN at 1", x.told(3, 4), 0);
        for (int bad : new int[] {-1, 7, Integer.MIN_VALUE, Integer.MAX_VALUE}) {
            Check.refused(x, "told what " + bad, () -> x.told(0, bad), BAD);
            Check.refused(x, "told job " + bad, () -> x.told(bad, 0), BAD);
        }
        Check.refused(x, "told job 6", () -> x.told(6, 0), BAD);
    }

    private static void drop() {
        BenchWithTails x = new BenchWithTails();
        Check.text(x, "p1,1,1;r2,2,2;h3,3,3;d4,4,4", 4);
        x.go(5);
        for (int job : new int[] {-1, 4, 8, Integer.MIN_VALUE, Integer.MAX_VALUE}) {
            Check.refused(x, "drop " + job, () -> x.drop(job), BAD);
        }
        Check.due("drop(1)", x.drop(1), 3);
        Check.due("NOW after drop", x.bench(0), 0);
        Check.all("told(0)", 4, what -> x.told(0, what), 0, 1, 1, 1);
        Check.all("told(1)", 4, what -> x.told(1, what), 2, 3, 3, 3);
        Check.all("told(2)", 4, what -> x.told(2, what), 3, 4, 4, 4);
        Check.due("told(3, 0)", x.told(3, 0), BAD);
        Check.due("drop(2)", x.drop(2), 2);
        Check.due("drop(0)", x.drop(0), 1);
        Check.all("told(0)", 4, what -> x.told(0, what), 2, 3, 3, 3);
        Check.due("drop(0)", x.drop(0), 0);
        Check.refused(x, "drop of none", () -> x.drop(0), BAD);
        Check.due("job after all are dropped", x.job(0, 1, 1, 1), 0);
    }

    private static void taken() {
        BenchWithTails x = new BenchWithTails();
        for (int kind = 0; kind < 6; kind++) {
            x.job(kind, 10, 8, 3);
        }
        int[][] want = {
            {11, -13, -13, -13, -13, -13},
            {16, 16, -13, -13, -13, -13},
            {13, -13, 13, -13, -13, -13},
            {16, 16, -13, 16, -13, -13},
            {16, -13, 16, -13, 16, -13},
            {15, -13, 15, -13, 15, 15},
        };
        for (int job = 0; job < 6; job++) {
            int of = job;
            Check.all("taken " + job, 6, k -> x.taken(of, k), want[job]);
        }
        for (int bad : new int[] {-1, 6, Integer.MIN_VALUE, Integer.MAX_VALUE}) {
            Check.refused(x, "taken job " + bad, () -> x.taken(bad, 0), BAD);
            Check.refused(x, "taken kind " + bad, () -> x.taken(0, bad), BAD);
        }
    }
}
