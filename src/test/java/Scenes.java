/** Objects that tests begin with, each made anew, and what fills them. */
final class Scenes {
    static final int MIN = Integer.MIN_VALUE, MAX = Integer.MAX_VALUE;

    private Scenes() {
    }

    /** Feeds a text whole, five bytes a call. */
    static void feed(BenchWithTails x, String text) {
        for (int i = 0; i < text.length(); i += 5) {
            int n = Math.min(5, text.length() - i);
            x.feed(n, sign(text, i), sign(text, i + 1), sign(text, i + 2), sign(text, i + 3), sign(text, i + 4));
        }
    }

    private static int sign(String text, int i) {
        return i < text.length() ? text.charAt(i) : 0;
    }

    /** A SHEET becomes a row of these numbers. */
    static void tell(BenchWithTails x, int sheet, int sort, long... row) {
        x.sheet(sheet, sort, row.length);
        for (int i = 0; i < row.length; i++) {
            x.put(sheet, i, row[i]);
        }
    }

    /** JOBS of ITEMS; more of them than THE TAPE holds may be told. */
    static BenchWithTails of(String items) {
        BenchWithTails x = new BenchWithTails();
        for (String item : items.split(";")) {
            feed(x, item);
            x.text();
        }
        if (x.count(0) != items.split(";").length) {
            Check.due("JOBS of " + items, x.count(0), items.split(";").length);
        }
        return x;
    }

    static BenchWithTails one() {
        return of("p7,3,2");
    }

    /** The short one with the long tail comes while the other is at the bench. */
    static BenchWithTails two() {
        return of("p0,5,1;p2,2,10");
    }

    static BenchWithTails eightAlike() {
        return of("p0,1,0;p0,1,0;p0,1,0;p0,1,0;p0,1,0;p0,1,0;p0,1,0;p0,1,0");
    }

    /** The greatest that may be: each COMES at 63, TAKES 25, COOLS 120. */
    static BenchWithTails eightGreatest() {
        return of("m60,20,60;m60,20,60;m60,20,60;m60,20,60;m60,20,60;m60,20,60;m60,20,60;m60,20,60");
    }

    /** Some of all: three JOBS, one at the bench, ITEMS on THE TAPE, AN IMAGE, SHEETS of three kinds. */
    static BenchWithTails busy() {
        BenchWithTails x = of("r9,8,7;m6,5,4");
        x.image();
        x.drop(0);
        x.drop(0);
        feed(x, "p0,5,1;p2,2,10;d19,3,0");
        x.text();
        feed(x, "d7,8,9;h1,2,3");
        tell(x, 0, 0, 1, 0, 2);
        tell(x, 1, 1, 7, -1);
        tell(x, 3, 0);
        x.go(4);
        return x;
    }

    /** As much as there may be: eight JOBS, THE TAPE full of ITEMS, SHEETS of 40 and of 0, hour 999. */
    static BenchWithTails full() {
        BenchWithTails x = new BenchWithTails();
        x.image();
        feed(x, "p0,1,0;r1,2,3;h2,4,5;d9,6,7;m4,8,9;s5,9,8;p7,3,1;r3,2,0");
        x.text();
        feed(x, "p10,1,0;r11,2,3;h12,4,5;d19,6,7;m14,8,9;s5,9,8;p7,3,1;r3,2,0");
        x.sheet(0, 0, 40);
        x.sheet(1, 1, 40);
        x.put(0, 39, Long.MIN_VALUE);
        x.put(1, 39, -9);
        x.sheet(2, 0, 0);
        x.sheet(3, 1, 0);
        Check.times(16, () -> x.go(60));
        x.go(39);
        return x;
    }
}
