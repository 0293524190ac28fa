import java.util.ArrayList;
import java.util.Arrays;
import java.util.List;
import java.util.regex.Matcher;
import java.util.regex.Pattern;

/**
 * All calls of the document once more, on lists and by the Oracle, written apart from the class: what it
 * answers to a run of calls is what the class has to.
 */
public final class Model {
    private static final int BAD = -2, STATE = -3, FULL = -4;
    private static final Pattern NUMBER = Pattern.compile("[0-9]{1,2}");

    private List<int[]> jobs = new ArrayList<>();
    private List<int[]> image;
    private String tape = "";
    private final long[][] sheets = new long[4][];
    private final boolean[] ints = new boolean[4];
    private int now;
    private Oracle oracle;
    private List<List<Integer>> leastOrders;

    private static boolean in(int v, int least, int most) {
        return least <= v && v <= most;
    }

    private static boolean fits(int what, int v) {
        return what == 0 && in(v, 0, 5) || what == 2 && in(v, 1, 20) || (what == 1 || what == 3) && in(v, 0, 60);
    }

    private boolean has(int job) {
        return in(job, 0, jobs.size() - 1);
    }

    private void anew() {
        now = 0;
        oracle = null;
        leastOrders = null;
    }

    private static boolean under(int kind, int k) {
        String[] kinds = {"0", "01", "02", "013", "024", "0245"};
        return kinds[kind].indexOf('0' + k) >= 0;
    }

    private static int[] times(int[] job) {
        int kind = job[0];
        int comes = kind == 3 ? job[1] / 2 : kind >= 4 ? job[1] + 3 : job[1];
        int takes = under(kind, 2) ? job[2] + job[2] / 4 : job[2];
        int cools = under(kind, 1) ? job[3] + 5 : kind >= 4 ? job[3] * 2 : job[3];
        return new int[] {comes, kind == 5 && takes > 1 ? takes - 1 : takes, cools};
    }

    private Oracle oracle() {
        if (oracle == null) {
            int[][] rows = new int[jobs.size()][];
            for (int i = 0; i < rows.length; i++) {
                rows[i] = times(jobs.get(i));
            }
            oracle = new Oracle(rows);
        }
        return oracle;
    }

    private List<List<Integer>> leastOrders() {
        if (leastOrders == null) {
            leastOrders = oracle().leastOrders();
        }
        return leastOrders;
    }

    // ---- jobs.

    public int feed(int n, int a, int b, int c, int d, int e) {
        int[] bytes = {a, b, c, d, e};
        boolean bad = !in(n, 1, 5);
        for (int v : bytes) {
            bad |= !in(v, 0, 255);
        }
        if (bad) {
            return BAD;
        }
        if (tape.length() > 60 - n) {
            return FULL;
        }
        for (int i = 0; i < n; i++) {
            tape += (char) bytes[i];
        }
        return tape.length();
    }

    public int text() {
        String text = tape;
        tape = "";
        List<int[]> items = new ArrayList<>();
        int place = 0;
        while (true) {
            int[] item = new int[4];
            for (int what = 0; what < 4; what++) {
                if (what == 0) {
                    item[0] = place < text.length() ? "prhdms".indexOf(text.charAt(place)) : -1;
                    if (item[0] < 0) {
                        return -100 - place;
                    }
                    place++;
                    continue;
                }
                Matcher number = NUMBER.matcher(text).region(place, text.length());
                if (!number.lookingAt() || !fits(what, item[what] = Integer.parseInt(number.group()))) {
                    return -100 - place;
                }
                place = number.end();
                if (what < 3 && !text.startsWith(",", place)) {
                    return -100 - place;
                }
                place += what < 3 ? 1 : 0;
            }
            items.add(item);
            if (place == text.length()) {
                break;
            }
            if (text.charAt(place) != ';') {
                return -100 - place;
            }
            place++;
        }
        if (jobs.size() + items.size() > 8) {
            return FULL;
        }
        jobs.addAll(items);
        anew();
        return jobs.size();
    }

    public int job(int kind, int release, int work, int tail) {
        if (!fits(0, kind) || !fits(1, release) || !fits(2, work) || !fits(3, tail)) {
            return BAD;
        }
        if (jobs.size() == 8) {
            return FULL;
        }
        jobs.add(new int[] {kind, release, work, tail});
        anew();
        return jobs.size() - 1;
    }

    public int set(int job, int what, int v) {
        if (!has(job) || !fits(what, v)) {
            return BAD;
        }
        int was = jobs.get(job)[what];
        jobs.set(job, jobs.get(job).clone());
        jobs.get(job)[what] = v;
        anew();
        return was;
    }

    public int told(int job, int what) {
        if (!has(job) || !in(what, 0, 6)) {
            return BAD;
        }
        return what < 4 ? jobs.get(job)[what] : times(jobs.get(job))[what - 4];
    }

    public int drop(int job) {
        if (!has(job)) {
            return BAD;
        }
        jobs.remove(job);
        anew();
        return jobs.size();
    }

    public int taken(int job, int k) {
        if (!has(job) || !in(k, 0, 5)) {
            return BAD;
        }
        int[] times = times(jobs.get(job));
        return under(jobs.get(job)[0], k) ? times[1] + times[2] : -13;
    }

    // ---- greedy, breaking, branches.

    public int greedy(int k, int what) {
        if (!in(what, 0, 1)) {
            return BAD;
        }
        if (!in(k, -1, jobs.size() - 1)) {
            return -12;
        }
        List<Integer> order = oracle().greedy();
        if (k == -1) {
            return what == 0 ? oracle().finish(order) : oracle().idle(order);
        }
        return what == 0 ? order.get(k) : oracle().begins(order)[k];
    }

    public int breaking(int what) {
        return in(what, 0, 1) ? oracle().breaking()[what] : BAD;
    }

    public int critical(int what) {
        if (!in(what, 0, 4)) {
            return BAD;
        }
        return jobs.isEmpty() ? STATE : oracle().critical()[what];
    }

    public int branch(int side, int what) {
        if (!in(side, 0, 1) || !in(what, 0, 2)) {
            return BAD;
        }
        Oracle branch = jobs.isEmpty() ? null : oracle().branch(side);
        if (branch == null) {
            return STATE;
        }
        int[] bar = branch.jobs[oracle().critical()[2]];
        return what == 0 ? branch.greedyFinish() : what == 1 ? branch.breaking()[0] : bar[side == 0 ? 2 : 0];
    }

    public int bound(int set) {
        return in(set, 1, (1 << jobs.size()) - 1) ? oracle().bound(set) : BAD;
    }

    public int strongest(int what) {
        if (!in(what, 0, 1)) {
            return BAD;
        }
        if (jobs.isEmpty()) {
            return STATE;
        }
        return what == 0 ? oracle().strongest() : oracle().bound(oracle().strongest());
    }

    // ---- the least.

    public int least(int what) {
        return in(what, 0, 2) ? oracle().search()[what] : BAD;
    }

    public int many() {
        return leastOrders().size();
    }

    public int order(int k) {
        return has(k) ? leastOrders().get(0).get(k) : -12;
    }

    public int must(int job) {
        return has(job) ? oracle().must(job, leastOrders()) : BAD;
    }

    public int room(int job) {
        return has(job) ? oracle().room(job, oracle().leastOfAll()) : BAD;
    }

    public int gain(int job) {
        return has(job) ? oracle().leastOfAll() - oracle().without(job).leastOfAll() : BAD;
    }

    // ---- told, drawn.

    public long judge(int sheet, int what) {
        if (!in(sheet, 0, 3) || !in(what, 0, 3)) {
            return BAD;
        }
        if (sheets[sheet] == null) {
            return -11;
        }
        List<Integer> order = new ArrayList<>();
        for (long v : sheets[sheet]) {
            order.add((int) Math.max(-1, Math.min(8, v)));
        }
        for (int job = 0; job < jobs.size(); job++) {
            if (!order.contains(job)) {
                return STATE;
            }
        }
        if (order.size() != jobs.size()) {
            return STATE;
        }
        int[] begins = oracle().begins(order);
        List<Integer> greedy = oracle().greedy();
        int later = 0;
        int wait = 0;
        for (int k = 0; k < begins.length; k++) {
            later += begins[k] > oracle().begins(greedy)[greedy.indexOf(order.get(k))] ? 1 : 0;
            wait = Math.max(wait, begins[k] - oracle().jobs[order.get(k)][0]);
        }
        return new int[] {oracle().finish(order), oracle().idle(order), later, wait}[what];
    }

    public int film(int sheet) {
        if (!in(sheet, 0, 3)) {
            return BAD;
        }
        List<Integer> first = leastOrders().get(0);
        int[] begins = oracle().begins(first);
        sheets[sheet] = new long[jobs.size()];
        ints[sheet] = false;
        for (int k = 0; k < begins.length; k++) {
            sheets[sheet][first.get(k)] = begins[k];
        }
        return jobs.size();
    }

    public int drawn(int seed, int n) {
        return in(n, 0, 30) ? oracle().drawn(seed, n).search()[0] : BAD;
    }

    public int chance(int seed, int m, int n, int finish, int part) {
        if (!in(m, 1, 8) || !in(n, 0, 30) || !in(finish, 0, 999) || !in(part, 0, 1)) {
            return BAD;
        }
        int above = 0;
        for (int i = 0; i < m; i++) {
            above += oracle().drawn(seed + i, n).greedyFinish() <= finish ? 1 : 0;
        }
        int below = m;
        for (int d : new int[] {7, 5, 3, 2, 2, 2}) {
            if (above % d == 0 && below % d == 0) {
                above /= d;
                below /= d;
            }
        }
        return part == 0 ? above : below;
    }

    // ---- in truth: all follows from NOW, as the row is the greedy one.

    public int go(int n) {
        if (!in(n, 1, 60)) {
            return BAD;
        }
        if (now + n > 999) {
            return FULL;
        }
        now += n;
        return now;
    }

    public int bench(int what) {
        int at = -1;
        int ended = 0;
        int worked = 0;
        List<Integer> order = oracle().greedy();
        for (int k = 0; k < order.size(); k++) {
            int begin = oracle().begins(order)[k];
            int end = begin + oracle().jobs[order.get(k)][1];
            at = begin < now && now < end ? order.get(k) : at;
            ended |= end <= now ? 1 << order.get(k) : 0;
            worked += Math.max(0, Math.min(now, end) - begin);
        }
        return in(what, 0, 3) ? new int[] {now, at, ended, now - worked}[what] : BAD;
    }

    public int began(int job) {
        if (!has(job)) {
            return BAD;
        }
        List<Integer> order = oracle().greedy();
        int begin = oracle().begins(order)[order.indexOf(job)];
        return begin < now ? begin : -1;
    }

    public int image() {
        image = new ArrayList<>(jobs);
        return image.size();
    }

    public int back() {
        if (image == null) {
            return STATE;
        }
        jobs = new ArrayList<>(image);
        anew();
        return jobs.size();
    }

    public int count(int what) {
        int takes = 0;
        for (int[] job : jobs) {
            takes += times(job)[1];
        }
        return in(what, 0, 2) ? new int[] {jobs.size(), takes, tape.length()}[what] : BAD;
    }

    // ---- the host.

    public int sheet(int sheet, int sort, int n) {
        if (!in(sheet, 0, 3) || !in(sort, -1, 1) || sort >= 0 && n > 40) {
            return BAD;
        }
        if (sort >= 0 && n < 0) {
            return -14;
        }
        sheets[sheet] = sort < 0 ? null : new long[n];
        ints[sheet] = sort == 1;
        return 1;
    }

    public int put(int sheet, int i, long v) {
        if (!in(sheet, 0, 3)) {
            return BAD;
        }
        if (sheets[sheet] == null) {
            return -11;
        }
        if (!in(i, 0, sheets[sheet].length - 1)) {
            return -12;
        }
        sheets[sheet][i] = ints[sheet] ? v << 32 >> 32 : v;
        return 1;
    }

    public long item(int sheet, int i) {
        boolean there = in(sheet, 0, 3) && sheets[sheet] != null && in(i, 0, sheets[sheet].length - 1);
        return there ? sheets[sheet][i] : -4611686018427387904L;
    }

    public int copy(int sheet, int i, int other, int j, int n) {
        if (!in(sheet, 0, 3) || !in(other, 0, 3)) {
            return BAD;
        }
        if (sheets[sheet] == null || sheets[other] == null) {
            return -11;
        }
        if (ints[sheet] != ints[other]) {
            return -13;
        }
        if (n < 0 || i < 0 || j < 0 || (long) i + n > sheets[sheet].length || (long) j + n > sheets[other].length) {
            return -12;
        }
        long[] were = Arrays.copyOfRange(sheets[sheet], i, i + n);
        for (int k = 0; k < n; k++) {
            sheets[other][j + k] = were[k];
        }
        return n;
    }
}
