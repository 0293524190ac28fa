/** Promises 31 to 34: sheet, put, item, copy. */
public final class HostTests {
    private static final int BAD = -2, MISSING = -11, OUTSIDE = -12, OTHER = -13, BELOW = -14;
    private static final long NO = BenchWithTails.NO;
    private static final int MIN = Scenes.MIN, MAX = Scenes.MAX;

    private HostTests() {
    }

    public static void main(String[] args) {
        sheetTakesTheEnds();
        sheetIsAllZero();
        sheetIsMissing();
        sheetRefuses();
        putLongs();
        putIntsLowestBits();
        putAtTheEnds();
        putRefuses();
        item();
        itemIsNone();
        copy();
        copyAsTheyWere();
        copyOfNone();
        copyOfTheGreatest();
        copyRefuses();
        copyOutside();
        Check.end("HostTests");
    }

    private static void row(BenchWithTails x, int sheet, long... want) {
        Check.all("item of " + sheet, i -> x.item(sheet, i), want);
        Check.due("item of " + sheet + " behind the end", x.item(sheet, want.length), NO);
    }

    // ---- promise 31: sheet.

    private static void sheetTakesTheEnds() {
        for (int sheet = 0; sheet < 4; sheet++) {
            for (int sort = 0; sort < 2; sort++) {
                for (int n = 0; n <= 40; n++) {
                    BenchWithTails x = new BenchWithTails();
                    Check.due("sheet(" + sheet + ", " + sort + ", " + n + ")", x.sheet(sheet, sort, n), 1);
                    Check.due("put at its end", x.put(sheet, n - 1, 7), n == 0 ? OUTSIDE : 1);
                    Check.due("put behind its end", x.put(sheet, n, 7), OUTSIDE);
                    Check.due("item at its end", x.item(sheet, n - 1), n == 0 ? NO : 7);
                    Check.due("item behind its end", x.item(sheet, n), NO);
                    for (int other = 0; other < 4; other++) {
                        Check.due("all others stay", x.put(other, 40, 7), other == sheet ? OUTSIDE : MISSING);
                    }
                }
            }
        }
    }

    private static void sheetIsAllZero() {
        BenchWithTails x = new BenchWithTails();
        Check.due("sheet(0, 0, 3)", x.sheet(0, 0, 3), 1);
        row(x, 0, 0, 0, 0);
        Scenes.tell(x, 0, 0, 7, 8, 9);
        Check.due("sheet(0, 0, 3), as it is", x.sheet(0, 0, 3), 1);
        row(x, 0, 0, 0, 0);
        Scenes.tell(x, 0, 0, 7, 8, 9);
        Check.due("sheet(0, 1, 2)", x.sheet(0, 1, 2), 1);
        row(x, 0, 0, 0);
        Check.due("sheet(0, 1, 4)", x.sheet(0, 1, 4), 1);
        row(x, 0, 0, 0, 0, 0);
        Scenes.tell(x, 0, 1, 7, 8, 9);
        x.sheet(0, 1, 0);
        row(x, 0);
        x.sheet(0, 1, 3);
        row(x, 0, 0, 0, 0);
        Scenes.tell(x, 0, 1, 7, 8, 9);
        x.sheet(0, -1, 3);
        x.sheet(0, 1, 3);
        row(x, 0, 0, 0, 0);
        BenchWithTails full = Scenes.full();
        full.sheet(0, 0, 40);
        for (int i = 0; i < 40; i++) {
            Check.due("item " + i + " of 40", full.item(0, i), 0);
        }
    }

    private static void sheetIsMissing() {
        for (int n : new int[] {0, 1, 40, 41, -1, MIN, MAX}) {
            for (int sheet = 0; sheet < 4; sheet++) {
                BenchWithTails x = Scenes.busy();
                Check.due("sheet(" + sheet + ", -1, " + n + ")", x.sheet(sheet, -1, n), 1);
                Check.due("it is missing", x.put(sheet, 0, 1), MISSING);
                Check.due("it has no items", x.item(sheet, 0), NO);
                Check.due("missing once more", x.sheet(sheet, -1, n), 1);
                Check.due("film of a missing one", x.film(sheet), 3);
                Check.due("it is there", x.put(sheet, 0, 1), 1);
            }
        }
    }

    private static void sheetRefuses() {
        for (int sheet : new int[] {-1, 4, MIN, MAX}) {
            for (int n : new int[] {1, 41, -1}) {
                for (int sort = -1; sort < 3; sort++) {
                    int s = sort;
                    Check.refused(Scenes::busy, "sheet(" + sheet + ", " + sort + ", " + n + ")",
                            x -> x.sheet(sheet, s, n), BAD);
                }
            }
        }
        for (int sort : new int[] {-2, 2, MIN, MAX}) {
            for (int n : new int[] {1, 41, -1}) {
                Check.refused(Scenes::busy, "sheet(0, " + sort + ", " + n + ")", x -> x.sheet(0, sort, n), BAD);
            }
        }
        for (int sheet = 0; sheet < 4; sheet++) {
            for (int sort = 0; sort < 2; sort++) {
                int of = sheet;
                int s = sort;
                for (int n : new int[] {41, 42, MAX}) {
                    Check.refused(Scenes::busy, "sheet of " + n, x -> x.sheet(of, s, n), BAD);
                }
                for (int n : new int[] {-1, -40, MIN}) {
                    Check.refused(Scenes::busy, "sheet of " + n, x -> x.sheet(of, s, n), BELOW);
                }
            }
        }
    }

    // ---- promise 32: put.

    private static void putLongs() {
        BenchWithTails x = new BenchWithTails();
        x.sheet(0, 0, 3);
        for (long v : new long[] {0, 7, -7, Long.MAX_VALUE, Long.MIN_VALUE, MAX + 1L, MIN - 1L, 1L << 32, NO}) {
            Check.due("put a long", x.put(0, 1, v), 1);
            row(x, 0, 0, v, 0);
        }
    }

    private static void putIntsLowestBits() {
        BenchWithTails x = new BenchWithTails();
        x.sheet(1, 1, 3);
        long[] told = {0, 7, -7, MAX, MIN, MAX + 1L, MIN - 1L, 1L << 32, (1L << 32) + 5, (1L << 32) - 1, (1L << 33) - 2,
            Long.MAX_VALUE, Long.MIN_VALUE, NO, -1L << 31, -1L << 40, 3L << 31};
        long[] kept = {0, 7, -7, MAX, MIN, MIN, MAX, 0, 5, -1, -2, -1, 0, 0, MIN, 0, MIN};
        for (int i = 0; i < told.length; i++) {
            Check.due("put of " + told[i] + " as an int", x.put(1, 1, told[i]), 1);
            row(x, 1, 0, kept[i], 0);
        }
    }

    private static void putAtTheEnds() {
        BenchWithTails x = new BenchWithTails();
        x.sheet(2, 0, 40);
        Check.due("put at 0", x.put(2, 0, 5), 1);
        Check.due("put at 39", x.put(2, 39, 6), 1);
        Check.due("put at 40", x.put(2, 40, 7), OUTSIDE);
        Check.due("put at -1", x.put(2, -1, 8), OUTSIDE);
        for (int i = 0; i < 40; i++) {
            Check.due("item " + i, x.item(2, i), i == 0 ? 5 : i == 39 ? 6 : 0);
        }
    }

    private static void putRefuses() {
        for (int sheet : new int[] {-1, 4, MIN, MAX}) {
            for (int i : new int[] {0, -1, 40, MIN, MAX}) {
                Check.refused(Scenes::busy, "put sheet " + sheet, x -> x.put(sheet, i, 1), BAD);
            }
        }
        for (int i : new int[] {0, -1, 40, MIN, MAX}) {
            Check.refused(Scenes::busy, "put in a missing one", x -> x.put(2, i, 1), MISSING);
            Check.refused(Scenes::busy, "put in one of size 0", x -> x.put(3, i, 1), OUTSIDE);
        }
        for (int i : new int[] {-1, 3, 4, 39, 40, MIN, MAX}) {
            Check.refused(Scenes::busy, "put item " + i, x -> x.put(0, i, 1), OUTSIDE);
        }
        for (int i : new int[] {-1, 2, 3, 40, MIN, MAX}) {
            Check.refused(Scenes::busy, "put item " + i, x -> x.put(1, i, 1), OUTSIDE);
        }
        for (int i : new int[] {-1, 40, MIN, MAX}) {
            Check.refused(Scenes::full, "put item " + i, x -> x.put(0, i, 1), OUTSIDE);
        }
    }

    // ---- promise 33: item.

    private static void item() {
        BenchWithTails x = Scenes.busy();
        row(x, 0, 1, 0, 2);
        row(x, 1, 7, -1);
        row(x, 2);
        row(x, 3);
        BenchWithTails full = Scenes.full();
        Check.due("item(0, 39)", full.item(0, 39), Long.MIN_VALUE);
        Check.due("item(1, 39)", full.item(1, 39), -9);
        Check.due("item(0, 0)", full.item(0, 0), 0);
        Check.due("item(0, 40)", full.item(0, 40), NO);
        full.put(0, 3, NO);
        Check.due("an item that is NO", full.item(0, 3), NO);
        Check.due("put where NO is", full.put(0, 3, 1), 1);
    }

    private static void itemIsNone() {
        for (int sheet : new int[] {-1, 4, MIN, MAX}) {
            Check.refused(Scenes::busy, "item of sheet " + sheet, x -> x.item(sheet, 0), NO);
        }
        for (int i : new int[] {-1, 0, 40, MIN, MAX}) {
            Check.refused(Scenes::busy, "item of a missing one", x -> x.item(2, i), NO);
            Check.refused(Scenes::busy, "item of one of size 0", x -> x.item(3, i), NO);
        }
        for (int i : new int[] {-1, 3, 39, 40, MIN, MAX}) {
            Check.refused(Scenes::busy, "item " + i, x -> x.item(0, i), NO);
        }
        BenchWithTails x = Scenes.full();
        x.sheet(0, 0, 5);
        Check.due("item behind what was there", x.item(0, 39), NO);
    }

    // ---- promise 34: copy.

    private static BenchWithTails rows() {
        BenchWithTails x = new BenchWithTails();
        Scenes.tell(x, 0, 0, 10, 11, 12, 13, 14);
        Scenes.tell(x, 1, 0, 7, 8, 9);
        Scenes.tell(x, 2, 1, 20, 21, 22, 23, 24);
        return x;
    }

    private static void copy() {
        BenchWithTails x = rows();
        Check.due("copy(0, 1, 1, 0, 3)", x.copy(0, 1, 1, 0, 3), 3);
        row(x, 1, 11, 12, 13);
        row(x, 0, 10, 11, 12, 13, 14);
        Check.due("copy(1, 2, 0, 4, 1)", x.copy(1, 2, 0, 4, 1), 1);
        row(x, 0, 10, 11, 12, 13, 13);
        Check.due("copy(0, 0, 1, 1, 2)", x.copy(0, 0, 1, 1, 2), 2);
        row(x, 1, 11, 10, 11);
        BenchWithTails ints = rows();
        Scenes.tell(ints, 3, 1, 0, 0, 0, 0, 0);
        Check.due("copy of ints", ints.copy(2, 0, 3, 0, 5), 5);
        row(ints, 3, 20, 21, 22, 23, 24);
        ints.put(2, 0, 1);
        row(ints, 3, 20, 21, 22, 23, 24);
        Scenes.tell(x, 0, 0, Long.MIN_VALUE, Long.MAX_VALUE);
        x.copy(0, 0, 1, 1, 2);
        row(x, 1, 11, Long.MIN_VALUE, Long.MAX_VALUE);
    }

    /** To the right, to the left, to where it is: all as they were ahead of it. */
    private static void copyAsTheyWere() {
        for (int sheet = 0; sheet < 3; sheet += 2) {
            int base = 10 + sheet * 5;
            for (int i = 0; i <= 5; i++) {
                for (int j = 0; j <= 5; j++) {
                    for (int n = 0; n <= 5 - Math.max(i, j); n++) {
                        BenchWithTails x = rows();
                        Check.due("copy " + i + " to " + j + ", " + n, x.copy(sheet, i, sheet, j, n), n);
                        for (int k = 0; k < 5; k++) {
                            Check.due("item", x.item(sheet, k), base + (k >= j && k < j + n ? k - j + i : k));
                        }
                    }
                }
            }
        }
    }

    private static void copyOfNone() {
        Check.changesNothing(HostTests::rows, "copy of none", x -> Check.due("copy of none", x.copy(0, 0, 1, 0, 0), 0));
        Check.changesNothing(HostTests::rows, "copy of none at the ends",
                x -> Check.due("copy of none at the ends", x.copy(0, 5, 1, 3, 0), 0));
        Check.changesNothing(Scenes::full, "copy of none of size 0",
                x -> Check.due("copy of none of size 0", x.copy(2, 0, 2, 0, 0), 0));
        Check.changesNothing(Scenes::full, "copy of none of size 0 to 40",
                x -> Check.due("copy of none of size 0 to 40", x.copy(2, 0, 0, 40, 0), 0));
    }

    private static void copyOfTheGreatest() {
        BenchWithTails x = Scenes.full();
        x.sheet(2, 0, 40);
        Check.due("copy of 40", x.copy(0, 0, 2, 0, 40), 40);
        Check.due("the last of 40", x.item(2, 39), Long.MIN_VALUE);
        Check.due("copy of 39", x.copy(0, 1, 2, 0, 39), 39);
        Check.due("the last of 39", x.item(2, 38), Long.MIN_VALUE);
        Check.due("the one behind them", x.item(2, 39), Long.MIN_VALUE);
        Check.due("copy of 41", x.copy(0, 0, 2, 0, 41), OUTSIDE);
        Check.due("copy of 40 from 1", x.copy(0, 1, 2, 0, 40), OUTSIDE);
        Check.due("copy of 40 to 1", x.copy(0, 0, 2, 1, 40), OUTSIDE);
    }

    private static void copyRefuses() {
        for (int bad : new int[] {-1, 4, MIN, MAX}) {
            for (int other = 0; other < 4; other++) {
                int to = other;
                for (int n : new int[] {-1, 0, 1, 41}) {
                    Check.refused(Scenes::busy, "copy of sheet " + bad, x -> x.copy(bad, 0, to, 0, n), BAD);
                    Check.refused(Scenes::busy, "copy to sheet " + bad, x -> x.copy(to, 0, bad, 0, n), BAD);
                }
            }
            Check.refused(Scenes::busy, "copy of and to sheet " + bad, x -> x.copy(bad, 0, bad, 0, 0), BAD);
        }
        for (int n : new int[] {-1, 0, 1, 41}) {
            for (int other = 0; other < 4; other++) {
                int to = other;
                Check.refused(Scenes::busy, "copy of a missing one", x -> x.copy(2, 0, to, 0, n), MISSING);
                Check.refused(Scenes::busy, "copy to a missing one", x -> x.copy(to, -1, 2, 9, n), MISSING);
            }
            Check.refused(Scenes::busy, "copy of longs to ints", x -> x.copy(0, 0, 1, 0, n), OTHER);
            Check.refused(Scenes::busy, "copy of ints to longs", x -> x.copy(1, 0, 0, 0, n), OTHER);
            Check.refused(Scenes::busy, "copy of ints to longs of size 0", x -> x.copy(1, -1, 3, 9, n), OTHER);
        }
    }

    private static void copyOutside() {
        int[][] outside = {{-1, 0, 1}, {0, -1, 1}, {0, 0, -1}, {-1, 0, 0}, {0, -1, 0}, {5, 0, 1}, {6, 0, 0}, {0, 3, 1},
            {0, 4, 0}, {3, 0, 3}, {4, 0, 2}, {0, 1, 3}, {0, 2, 2}, {0, 0, 4}, {0, 0, 6}, {MAX, 0, 1}, {0, MAX, 1},
            {0, 0, MAX}, {MIN, 0, 1}, {0, MIN, 1}, {0, 0, MIN}, {MAX, MAX, MAX}, {1, 1, MAX}, {MAX, 0, 0}, {0, MAX, 0},
            {1, 0, -1}, {5, 3, -1}, {6, 0, -1}, {MIN, MIN, MIN}, {MAX, 0, MIN}};
        for (int[] a : outside) {
            String call = "copy from " + a[0] + " to " + a[1] + ", " + a[2];
            Check.refused(HostTests::rows, call, x -> x.copy(0, a[0], 1, a[1], a[2]), OUTSIDE);
        }
        Check.refused(HostTests::rows, "copy in one, to behind it", x -> x.copy(2, 0, 2, 1, 5), OUTSIDE);
        Check.refused(Scenes::full, "copy of one of size 0", x -> x.copy(2, 0, 0, 0, 1), OUTSIDE);
        Check.refused(Scenes::full, "copy to one of size 0", x -> x.copy(0, 0, 2, 0, 1), OUTSIDE);
    }
}
