import java.util.ArrayList;
import java.util.List;

/**
 * The document's words once more, by the plainest ways: hour by hour, over all orders, over all
 * numbers. Each job is {comes, takes, cools}. Far too slow for the class, and written apart from it.
 */
final class Oracle {
    final int n;
    final int[][] jobs;

    Oracle(int[][] jobs) {
        this.jobs = jobs;
        this.n = jobs.length;
    }

    static Oracle of(BenchWithTails x) {
        int[][] jobs = new int[x.count(0)][];
        for (int i = 0; i < jobs.length; i++) {
            jobs[i] = new int[] {x.told(i, 4), x.told(i, 5), x.told(i, 6)};
        }
        return new Oracle(jobs);
    }

    Oracle with(int job, int field, int v) {
        int[][] other = new int[n][];
        for (int i = 0; i < n; i++) {
            other[i] = jobs[i].clone();
        }
        other[job][field] = v;
        return new Oracle(other);
    }

    Oracle without(int job) {
        int[][] other = new int[n - 1][];
        for (int i = 0; i < n - 1; i++) {
            other[i] = jobs[i < job ? i : i + 1];
        }
        return new Oracle(other);
    }

    Oracle drawn(int seed, int later) {
        int[][] other = new int[n][];
        int z = seed;
        for (int i = 0; i < n; i++) {
            z = z * 1103515245 + 12345;
            other[i] = new int[] {jobs[i][0] + (z >>> 9) % (later + 1), jobs[i][1], jobs[i][2]};
        }
        return new Oracle(other);
    }

    /** An order's hours: {begin of the first, of the second, ..}. */
    int[] begins(List<Integer> order) {
        int[] begins = new int[order.size()];
        int hour = 0;
        for (int k = 0; k < begins.length; k++) {
            while (hour < jobs[order.get(k)][0]) {
                hour++;
            }
            begins[k] = hour;
            hour += jobs[order.get(k)][1];
        }
        return begins;
    }

    int finish(List<Integer> order) {
        int[] begins = begins(order);
        int finish = 0;
        for (int k = 0; k < begins.length; k++) {
            int[] job = jobs[order.get(k)];
            finish = Math.max(finish, begins[k] + job[1] + job[2]);
        }
        return finish;
    }

    int idle(List<Integer> order) {
        int[] begins = begins(order);
        int idle = 0;
        int hour = 0;
        for (int k = 0; k < begins.length; k++) {
            idle += begins[k] - hour;
            hour = begins[k] + jobs[order.get(k)][1];
        }
        return idle;
    }

    private boolean better(int job, int other) {
        if (other < 0 || jobs[job][2] != jobs[other][2]) {
            return other < 0 || jobs[job][2] > jobs[other][2];
        }
        return jobs[job][1] > jobs[other][1];
    }

    private int choose(int hour, boolean[] out) {
        int best = -1;
        for (int i = 0; i < n; i++) {
            if (!out[i] && jobs[i][0] <= hour && better(i, best)) {
                best = i;
            }
        }
        return best;
    }

    List<Integer> greedy() {
        List<Integer> order = new ArrayList<>();
        boolean[] out = new boolean[n];
        int hour = 0;
        while (order.size() < n) {
            int job = choose(hour, out);
            if (job < 0) {
                hour++;
                continue;
            }
            out[job] = true;
            order.add(job);
            hour += jobs[job][1];
        }
        return order;
    }

    int greedyFinish() {
        return finish(greedy());
    }

    /** {FINISH, how often one was BROKEN OFF}. */
    int[] breaking() {
        int[] left = new int[n];
        boolean[] ended = new boolean[n];
        int open = n;
        for (int i = 0; i < n; i++) {
            left[i] = jobs[i][1];
        }
        int at = -1;
        int finish = 0;
        int times = 0;
        for (int hour = 0; open > 0; hour++) {
            boolean off = false;
            for (int i = 0; i < n && at >= 0; i++) {
                off |= jobs[i][0] == hour && jobs[i][2] > jobs[at][2];
            }
            if (off) {
                times++;
            }
            if (at < 0 || off) {
                at = choose(hour, ended);
            }
            if (at >= 0) {
                left[at]--;
                if (left[at] == 0) {
                    ended[at] = true;
                    open--;
                    finish = Math.max(finish, hour + 1 + jobs[at][2]);
                    at = -1;
                }
            }
        }
        return new int[] {finish, times};
    }

    /** {LAST, FIRST, BAR, BEHIND, how many}. */
    int[] critical() {
        List<Integer> order = greedy();
        int[] begins = begins(order);
        int finish = finish(order);
        int last = -1;
        for (int k = 0; k < n; k++) {
            int[] job = jobs[order.get(k)];
            last = begins[k] + job[1] + job[2] == finish ? k : last;
        }
        int first = last;
        while (first > 0 && begins[first - 1] + jobs[order.get(first - 1)][1] == begins[first]) {
            first--;
        }
        int bar = -1;
        for (int k = first; k <= last; k++) {
            bar = jobs[order.get(k)][2] < jobs[order.get(last)][2] ? k : bar;
        }
        int behind = 0;
        for (int k = bar + 1; bar >= 0 && k <= last; k++) {
            behind |= 1 << order.get(k);
        }
        return new int[] {order.get(last), order.get(first), bar < 0 ? -1 : order.get(bar), behind, last - first + 1};
    }

    /** Branch 0 or 1; null: there is no BAR. */
    Oracle branch(int side) {
        int[] found = critical();
        if (found[2] < 0) {
            return null;
        }
        int take = 0;
        int come = Integer.MAX_VALUE;
        for (int i = 0; i < n; i++) {
            if ((found[3] >> i & 1) != 0) {
                take += jobs[i][1];
                come = Math.min(come, jobs[i][0]);
            }
        }
        int bar = found[2];
        return side == 0 ? with(bar, 2, Math.max(jobs[bar][2], take + jobs[found[0]][2]))
                : with(bar, 0, Math.max(jobs[bar][0], come + take));
    }

    /** {LEAST, NODES, the NODE at which LEAST was told first}. */
    int[] search() {
        int[] told = {-1, 0, 0};
        node(this, told);
        return told;
    }

    private static void node(Oracle at, int[] told) {
        told[1]++;
        int finish = at.greedyFinish();
        if (told[0] < 0 || finish < told[0]) {
            told[0] = finish;
            told[2] = told[1];
        }
        if (at.n == 0) {
            return;
        }
        for (int side = 0; side < 2; side++) {
            Oracle branch = at.branch(side);
            if (branch != null && branch.breaking()[0] < told[0]) {
                node(branch, told);
            }
        }
    }

    int bound(int set) {
        int come = Integer.MAX_VALUE;
        int take = 0;
        int cool = Integer.MAX_VALUE;
        for (int i = 0; i < n; i++) {
            if ((set >> i & 1) != 0) {
                come = Math.min(come, jobs[i][0]);
                take += jobs[i][1];
                cool = Math.min(cool, jobs[i][2]);
            }
        }
        return come + take + cool;
    }

    int strongest() {
        int best = 1;
        for (int size = 1; size <= n; size++) {
            for (int set = 1; set < 1 << n; set++) {
                if (Integer.bitCount(set) == size && bound(set) > bound(best)) {
                    best = set;
                }
            }
        }
        return best;
    }

    /** All orders, the first by number first. */
    List<List<Integer>> orders() {
        List<List<Integer>> all = new ArrayList<>();
        extend(new ArrayList<>(), all);
        return all;
    }

    private void extend(List<Integer> row, List<List<Integer>> all) {
        if (row.size() == n) {
            all.add(new ArrayList<>(row));
            return;
        }
        for (int i = 0; i < n; i++) {
            if (!row.contains(i)) {
                row.add(i);
                extend(row, all);
                row.remove(row.size() - 1);
            }
        }
    }

    int leastOfAll() {
        int least = Integer.MAX_VALUE;
        for (List<Integer> order : orders()) {
            least = Math.min(least, finish(order));
        }
        return least;
    }

    List<List<Integer>> leastOrders() {
        int least = leastOfAll();
        List<List<Integer>> found = new ArrayList<>();
        for (List<Integer> order : orders()) {
            if (finish(order) == least) {
                found.add(order);
            }
        }
        return found;
    }

    int must(int job, List<List<Integer>> leastOrders) {
        int always = (1 << n) - 1;
        for (List<Integer> order : leastOrders) {
            int ahead = 0;
            for (int k = 0; order.get(k) != job; k++) {
                ahead |= 1 << order.get(k);
            }
            always &= ahead;
        }
        return always;
    }

    int room(int job, int least) {
        int room = 0;
        for (int later = 0; later < 100; later++) {
            if (with(job, 0, jobs[job][0] + later).leastOfAll() == least) {
                room = later;
            }
        }
        return room;
    }
}
