/** Promises 31 to 34: sheet, put, item, copy. */
public final class HostTests {
    private static final int BAD = -2, MISSING = -11, OUTSIDE = -12, OTHER = -13, BELOW = -14;
    private static final long NO = BenchWithTails.NO;
    private static final int[] FAR = {Integer.MIN_VALUE, Integer.MAX_VALUE};

    private HostTests() {
    }

    public static void main(String[] args) {
        sheet();
        put();
        item();
        copy();
        copyRefuses();
        Check.end("HostTests");
    }

    private static void row(BenchWithTails x, int sheet, long... want) {
        for (int i = 0; i < want.length; i++) {
            Check.due("item(" + sheet + ", " + i + ")", x.item(sheet, i), want[i]);
        }
        Check.due("item(" + sheet + ") behind the end", x.item(sheet, want.length), NO);
    }

    private static void sheet() {
        BenchWithTails x = new BenchWithTails();
        Check.due("sheet(0, 0, 3)", x.sheet(0, 0, 3), 1);
        row(x, 0, 0, 0, 0);
        x.put(0, 1, 9);
        Check.due("sheet(0, 1, 2)", x.sheet(0, 1, 2), 1);
        row(x, 0, 0, 0);
        x.put(0, 1, 9);
        for (int bad : new int[] {-1, 4, FAR[0], FAR[1]}) {
            Check.refused(x, "sheet " + bad, () -> x.sheet(bad, 0, 1), BAD);
            Check.refused(x, "sheet " + bad + ", missing", () -> x.sheet(bad, -1, 1), BAD);
            Check.refused(x, "sheet " + bad + ", -14", () -> x.sheet(bad, 0, -1), BAD);
        }
        for (int bad : new int[] {-2, 2, FAR[0], FAR[1]}) {
            Check.refused(x, "sort " + bad, () -> x.sheet(0, bad, 1), BAD);
            Check.refused(x, "sort " + bad + ", -14", () -> x.sheet(0, bad, -1), BAD);
        }
        Check.refused(x, "size 41", () -> x.sheet(0, 0, 41), BAD);
        Check.refused(x, "size far", () -> x.sheet(0, 1, FAR[1]), BAD);
        Check.refused(x, "size -1", () -> x.sheet(0, 0, -1), BELOW);
        Check.refused(x, "size far below", () -> x.sheet(0, 1, FAR[0]), BELOW);
        Check.due("sheet(3, 1, 40)", x.sheet(3, 1, 40), 1);
        Check.due("item(3, 39)", x.item(3, 39), 0);
        Check.due("item(3, 40)", x.item(3, 40), NO);
        Check.due("sheet(1, 0, 0)", x.sheet(1, 0, 0), 1);
        row(x, 1);
        Check.due("it is there", x.put(1, 0, 1), OUTSIDE);
        for (int n : new int[] {0, 41, -1, FAR[0], FAR[1]}) {
            x.sheet(0, 0, 2);
            Check.due("sheet(0, -1, " + n + ")", x.sheet(0, -1, n), 1);
            Check.due("it is missing", x.put(0, 0, 1), MISSING);
            Check.due("it has no items", x.item(0, 0), NO);
        }
        Check.due("missing once more", x.sheet(0, -1, 0), 1);
    }

    private static void put() {
        BenchWithTails x = new BenchWithTails();
        x.sheet(0, 0, 2);
        x.sheet(1, 1, 2);
        for (long v : new long[] {7, -7, Long.MAX_VALUE, Long.MIN_VALUE, 1L << 31, (1L << 32) + 5, NO}) {
            Check.due("put a long", x.put(0, 1, v), 1);
            Check.due("item of longs", x.item(0, 1), v);
            Check.due("put an int", x.put(1, 1, v), 1);
            Check.due("item of ints", x.item(1, 1), (int) v);
        }
        Check.due("the other one stays", x.item(0, 0), 0);
        for (int bad : new int[] {-1, 4, FAR[0], FAR[1]}) {
            Check.refused(x, "put sheet " + bad, () -> x.put(bad, 0, 1), BAD);
        }
        for (int bad : new int[] {-1, 2, 40, FAR[0], FAR[1]}) {
            Check.refused(x, "put item " + bad, () -> x.put(0, bad, 1), OUTSIDE);
            Check.refused(x, "put item of a missing one", () -> x.put(2, bad, 1), MISSING);
        }
        Check.refused(x, "put in a missing one", () -> x.put(2, 0, 1), MISSING);
    }

    private static void item() {
        BenchWithTails x = new BenchWithTails();
        x.sheet(0, 0, 2);
        x.put(0, 0, 5);
        row(x, 0, 5, 0);
        for (int bad : new int[] {-1, 4, FAR[0], FAR[1]}) {
            Check.refused(x, "item of sheet " + bad, () -> x.item(bad, 0), NO);
        }
        for (int bad : new int[] {-1, 2, 40, FAR[0], FAR[1]}) {
            Check.refused(x, "item " + bad, () -> x.item(0, bad), NO);
        }
        Check.refused(x, "item of a missing one", () -> x.item(1, 0), NO);
    }

    private static BenchWithTails rows() {
        BenchWithTails x = new BenchWithTails();
        x.sheet(0, 0, 5);
        x.sheet(1, 0, 3);
        x.sheet(2, 1, 5);
        for (int i = 0; i < 5; i++) {
            x.put(0, i, i + 10);
            x.put(2, i, i + 20);
        }
        return x;
    }

    private static void copy() {
        BenchWithTails x = rows();
        Check.due("copy(0, 1, 1, 0, 3)", x.copy(0, 1, 1, 0, 3), 3);
        row(x, 1, 11, 12, 13);
        row(x, 0, 10, 11, 12, 13, 14);
        Check.due("copy(1, 2, 0, 4, 1)", x.copy(1, 2, 0, 4, 1), 1);
        row(x, 0, 10, 11, 12, 13, 13);
        Check.due("copy to the right", x.copy(0, 0, 0, 1, 4), 4);
        row(x, 0, 10, 10, 11, 12, 13);
        Check.due("copy to the left", x.copy(0, 2, 0, 0, 3), 3);
        row(x, 0, 11, 12, 13, 12, 13);
        Check.due("copy of ints", x.copy(2, 0, 2, 3, 2), 2);
        row(x, 2, 20, 21, 22, 20, 21);
        Check.due("copy to where it is", x.copy(2, 0, 2, 0, 5), 5);
        row(x, 2, 20, 21, 22, 20, 21);
        Check.due("copy of none", x.copy(0, 0, 1, 0, 0), 0);
        Check.due("copy of none at the ends", x.copy(0, 5, 1, 3, 0), 0);
        row(x, 1, 11, 12, 13);
    }

    private static void copyRefuses() {
        BenchWithTails x = rows();
        for (int bad : new int[] {-1, 4, FAR[0], FAR[1]}) {
            Check.refused(x, "copy of sheet " + bad, () -> x.copy(bad, 0, 0, 0, 1), BAD);
            Check.refused(x, "copy to sheet " + bad, () -> x.copy(0, 0, bad, 0, 1), BAD);
            Check.refused(x, "copy of a missing one to " + bad, () -> x.copy(3, 0, bad, 0, 1), BAD);
            Check.refused(x, "copy to a missing one of " + bad, () -> x.copy(bad, 0, 3, 0, 1), BAD);
        }
        Check.refused(x, "copy of a missing one", () -> x.copy(3, 0, 0, 0, 1), MISSING);
        Check.refused(x, "copy to a missing one", () -> x.copy(0, 0, 3, 0, 1), MISSING);
        Check.refused(x, "copy of none to a missing one", () -> x.copy(0, 9, 3, 0, -1), MISSING);
        Check.refused(x, "copy of longs to ints", () -> x.copy(0, 0, 2, 0, 1), OTHER);
        Check.refused(x, "copy of ints to longs", () -> x.copy(2, 0, 0, 0, 1), OTHER);
        Check.refused(x, "copy of unlike ones, outside", () -> x.copy(2, -1, 0, 0, -1), OTHER);
        int[][] outside = {{-1, 0, 1}, {0, -1, 1}, {0, 0, -1}, {5, 0, 1}, {6, 0, 0}, {0, 3, 1}, {0, 4, 0},
            {3, 0, 3}, {0, 1, 3}, {0, 0, 4}, {0, 0, 6}, {FAR[1], 0, 1}, {0, FAR[1], 1}, {0, 0, FAR[1]},
            {FAR[0], 0, 1}, {0, FAR[0], 1}, {0, 0, FAR[0]}, {FAR[1], FAR[1], FAR[1]}, {1, 1, FAR[1]}};
        for (int[] a : outside) {
            Check.refused(x, "copy outside", () -> x.copy(0, a[0], 1, a[1], a[2]), OUTSIDE);
        }
    }
}
