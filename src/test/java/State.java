/** All that can be seen of an object by calls that change nothing. */
final class State {
    private State() {
    }

    static String of(BenchWithTails x) {
        StringBuilder seen = new StringBuilder();
        for (int what = 0; what < 3; what++) {
            seen.append(x.count(what)).append(' ');
        }
        for (int what = 0; what < 4; what++) {
            seen.append(x.bench(what)).append(' ');
        }
        for (int job = 0; job < x.count(0); job++) {
            seen.append("| ").append(x.began(job)).append(' ');
            for (int what = 0; what < 7; what++) {
                seen.append(x.told(job, what)).append(' ');
            }
        }
        for (int sheet = 0; sheet < 4; sheet++) {
            seen.append("# ").append(sort(x, sheet)).append(' ');
            for (int i = 0; x.item(sheet, i) != BenchWithTails.NO; i++) {
                seen.append(x.item(sheet, i)).append(' ');
            }
        }
        seen.append("& ").append(x.least(0)).append(' ').append(x.many());
        return seen.toString();
    }

    /** -1 missing, 0 longs, 1 ints: two that are there can be copied, if they are of one sort. */
    private static int sort(BenchWithTails x, int sheet) {
        if (x.put(sheet, -1, 0) == -11) {
            return -1;
        }
        for (int other = 0; other < 4; other++) {
            if (x.copy(sheet, 0, other, 0, 0) == -13) {
                return 2;
            }
        }
        return 3;
    }
}
