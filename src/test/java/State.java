/** All that an object tells of itself. */
final class State {
    private State() {
    }

    /** Reads THE TAPE and THE IMAGE too, by what lays them out: the object is used up. */
    static String of(BenchWithTails x) {
        StringBuilder seen = new StringBuilder("COUNT ");
        for (int what = 0; what < 3; what++) {
            seen.append(x.count(what)).append(' ');
        }
        seen.append("BENCH ");
        for (int what = 0; what < 4; what++) {
            seen.append(x.bench(what)).append(' ');
        }
        seen.append("BEGAN ");
        for (int job = 0; job < x.count(0); job++) {
            seen.append(x.began(job)).append(' ');
        }
        seen.append(jobs(x));
        seen.append("LEAST ").append(x.least(0)).append(' ').append(x.least(1)).append(' ').append(x.many());
        sheets(x, seen);
        for (int n = x.count(0); n > 0; n--) {
            x.drop(0);
        }
        seen.append(" TAPE ").append(x.text()).append(' ').append(jobs(x));
        seen.append(" IMAGE ").append(x.back()).append(' ').append(jobs(x));
        return seen.toString();
    }

    /** What is told of JOBS. */
    static String jobs(BenchWithTails x) {
        StringBuilder seen = new StringBuilder();
        int n = x.count(0);
        for (int job = 0; job < n; job++) {
            seen.append("prhdms".charAt(x.told(job, 0)));
            seen.append(x.told(job, 1)).append(',').append(x.told(job, 2)).append(',');
            seen.append(x.told(job, 3)).append(' ');
        }
        return seen.toString();
    }

    private static void sheets(BenchWithTails x, StringBuilder seen) {
        for (int sheet = 0; sheet < 4; sheet++) {
            seen.append(" SHEET ");
            for (int i = 0; i <= 40; i++) {
                seen.append(x.item(sheet, i)).append(' ');
            }
        }
        for (int sheet = 0; sheet < 4; sheet++) {
            // What a copy of none answers tells which are missing, and which are of one sort.
            seen.append(" SORT");
            for (int other = 0; other < 4; other++) {
                seen.append(x.copy(sheet, 0, other, 0, 0)).append(' ');
            }
            seen.append(x.put(sheet, 0, 1L << 40)).append(' ').append(x.item(sheet, 0));
        }
    }
}
