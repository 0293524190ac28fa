import java.util.ArrayList;
import java.util.List;
import java.util.Random;

/** Drawn jobs (of seeds that are always the same): what the class answers is what the Oracle finds. */
public final class OracleTests {
    private OracleTests() {
    }

    public static void main(String[] args) {
        Random random = new Random(20261119);
        for (int run = 0; run < 600; run++) {
            String jobs = draw(random, run % 6, run % 5);
            Oracle oracle = Oracle.of(made(jobs));
            rows(made(jobs), oracle, jobs);
            least(made(jobs), oracle, jobs);
            leastOrders(made(jobs), oracle, jobs);
            thoughts(made(jobs), oracle, jobs, random);
            told(made(jobs), oracle, jobs, random);
            truth(made(jobs), oracle, jobs);
        }
        for (int run = 0; run < 3000; run++) {
            String jobs = draw(random, 5 + run % 4, run % 5);
            Oracle oracle = Oracle.of(made(jobs));
            rows(made(jobs), oracle, jobs);
            least(made(jobs), oracle, jobs);
            truth(made(jobs), oracle, jobs);
        }
        for (int run = 0; run < 40; run++) {
            String jobs = draw(random, 6 + run % 3, run % 5);
            leastOrders(made(jobs), Oracle.of(made(jobs)), jobs);
        }
        for (int run = 0; run < 300; run++) {
            anew(made(draw(random, run % 9, run % 5)), random);
        }
        Check.end("OracleTests");
    }

    /** ITEMS of JOBS of several tempers: far apart, close together, alike, with tails that matter. */
    private static String draw(Random random, int n, int temper) {
        int[] releases = {60, 20, 6, 30, 40};
        int[] works = {20, 8, 3, 6, 10};
        int[] tails = {60, 20, 3, 40, 50};
        StringBuilder items = new StringBuilder();
        for (int i = 0; i < n; i++) {
            items.append(i == 0 ? "" : ";");
            items.append("prhdms".charAt(temper == 2 ? random.nextInt(2) : random.nextInt(6)));
            items.append(random.nextInt(releases[temper] + 1)).append(',');
            items.append(1 + random.nextInt(works[temper])).append(',');
            items.append(random.nextInt(tails[temper] + 1));
        }
        return items.toString();
    }

    private static BenchWithTails made(String items) {
        return items.isEmpty() ? new BenchWithTails() : Scenes.of(items);
    }

    private static void rows(BenchWithTails x, Oracle oracle, String jobs) {
        List<Integer> order = oracle.greedy();
        int[] begins = oracle.begins(order);
        Check.due("greedy(-1, 0) " + jobs, x.greedy(-1, 0), oracle.finish(order));
        Check.due("greedy(-1, 1) " + jobs, x.greedy(-1, 1), oracle.idle(order));
        for (int k = 0; k < oracle.n; k++) {
            Check.due("greedy(" + k + ", 0) " + jobs, x.greedy(k, 0), order.get(k));
            Check.due("greedy(" + k + ", 1) " + jobs, x.greedy(k, 1), begins[k]);
        }
        int[] breaking = oracle.breaking();
        Check.due("breaking(0) " + jobs, x.breaking(0), breaking[0]);
        Check.due("breaking(1) " + jobs, x.breaking(1), breaking[1]);
        if (oracle.n == 0) {
            return;
        }
        int[] critical = oracle.critical();
        for (int what = 0; what < 5; what++) {
            Check.due("critical(" + what + ") " + jobs, x.critical(what), critical[what]);
        }
        for (int side = 0; side < 2; side++) {
            Oracle branch = oracle.branch(side);
            int[] want = {-3, -3, -3};
            if (branch != null) {
                want = new int[] {branch.greedyFinish(), branch.breaking()[0],
                    branch.jobs[critical[2]][side == 0 ? 2 : 0]};
            }
            for (int what = 0; what < 3; what++) {
                Check.due("branch(" + side + ", " + what + ") " + jobs, x.branch(side, what), want[what]);
            }
        }
        for (int set = 1; set < 1 << oracle.n; set++) {
            Check.due("bound(" + set + ") " + jobs, x.bound(set), oracle.bound(set));
        }
        Check.due("strongest(0) " + jobs, x.strongest(0), oracle.strongest());
        Check.due("strongest(1) " + jobs, x.strongest(1), oracle.bound(oracle.strongest()));
    }

    private static void least(BenchWithTails x, Oracle oracle, String jobs) {
        int[] search = oracle.search();
        for (int what = 0; what < 3; what++) {
            Check.due("least(" + what + ") " + jobs, x.least(what), search[what]);
        }
        for (int i = 0; i < oracle.n; i++) {
            Check.due("gain(" + i + ") " + jobs, x.gain(i), search[0] - oracle.without(i).search()[0]);
        }
    }

    private static void leastOrders(BenchWithTails x, Oracle oracle, String jobs) {
        Check.due("least of all orders " + jobs, x.least(0), oracle.leastOfAll());
        List<List<Integer>> orders = oracle.leastOrders();
        Check.due("many() " + jobs, x.many(), orders.size());
        List<Integer> first = orders.get(0);
        int[] begins = oracle.begins(first);
        Check.due("film(2) " + jobs, x.film(2), oracle.n);
        for (int k = 0; k < oracle.n; k++) {
            Check.due("order(" + k + ") " + jobs, x.order(k), first.get(k));
            Check.due("film, item " + first.get(k) + " " + jobs, x.item(2, first.get(k)), begins[k]);
            Check.due("must(" + k + ") " + jobs, x.must(k), oracle.must(k, orders));
            if (oracle.n <= 5) {
                Check.due("room(" + k + ") " + jobs, x.room(k), oracle.room(k, x.least(0)));
            }
        }
    }

    private static void thoughts(BenchWithTails x, Oracle oracle, String jobs, Random random) {
        int seed = random.nextInt();
        int n = random.nextInt(31);
        Check.due("drawn(" + seed + ", " + n + ") " + jobs, x.drawn(seed, n), oracle.drawn(seed, n).leastOfAll());
        int m = 1 + random.nextInt(8);
        int finish = Math.min(999, oracle.greedyFinish() + random.nextInt(20));
        int hits = 0;
        for (int i = 0; i < m; i++) {
            hits += oracle.drawn(seed + i, n).greedyFinish() <= finish ? 1 : 0;
        }
        int above = x.chance(seed, m, n, finish, 0);
        int below = x.chance(seed, m, n, finish, 1);
        Check.due("chance, as a part " + jobs, above * m, hits * below);
        for (int d = 2; d <= 8; d++) {
            Check.due("chance, lowest " + jobs, above % d == 0 && below % d == 0 ? 1 : 0, 0);
        }
    }

    private static void told(BenchWithTails x, Oracle oracle, String jobs, Random random) {
        List<Integer> order = new ArrayList<>();
        for (int i = 0; i < oracle.n; i++) {
            order.add(random.nextInt(i + 1), i);
        }
        x.sheet(1, random.nextInt(2), oracle.n);
        for (int k = 0; k < oracle.n; k++) {
            x.put(1, k, order.get(k));
        }
        int[] begins = oracle.begins(order);
        List<Integer> greedy = oracle.greedy();
        int[] greedyBegins = oracle.begins(greedy);
        int later = 0;
        int wait = 0;
        for (int k = 0; k < oracle.n; k++) {
            later += begins[k] > greedyBegins[greedy.indexOf(order.get(k))] ? 1 : 0;
            wait = Math.max(wait, begins[k] - oracle.jobs[order.get(k)][0]);
        }
        Check.due("judge(1, 0) of " + order + " " + jobs, x.judge(1, 0), oracle.finish(order));
        Check.due("judge(1, 1) of " + order + " " + jobs, x.judge(1, 1), oracle.idle(order));
        Check.due("judge(1, 2) of " + order + " " + jobs, x.judge(1, 2), later);
        Check.due("judge(1, 3) of " + order + " " + jobs, x.judge(1, 3), wait);
    }

    /** In truth the row is the greedy one: who is at the bench in which hour follows from it. */
    private static void truth(BenchWithTails x, Oracle oracle, String jobs) {
        List<Integer> order = oracle.greedy();
        int[] begins = oracle.begins(order);
        int step = 1 + oracle.n * 2;
        for (int now = step; now <= 30 * step; now += step) {
            Check.due("go to " + now + " " + jobs, x.go(step), now);
            int at = -1;
            int ended = 0;
            int worked = 0;
            for (int k = 0; k < oracle.n; k++) {
                int job = order.get(k);
                int end = begins[k] + oracle.jobs[job][1];
                at = begins[k] < now && end > now ? job : at;
                ended |= end <= now ? 1 << job : 0;
                worked += Math.max(0, Math.min(now, end) - begins[k]);
                Check.due("began(" + job + ") at " + now + " " + jobs, x.began(job), begins[k] < now ? begins[k] : -1);
            }
            Check.due("bench(0) at " + now + " " + jobs, x.bench(0), now);
            Check.due("bench(1) at " + now + " " + jobs, x.bench(1), at);
            Check.due("bench(2) at " + now + " " + jobs, x.bench(2), ended);
            Check.due("bench(3) at " + now + " " + jobs, x.bench(3), now - worked);
        }
    }

    /** An object whose JOBS change again and again answers as one that was told them at once. */
    private static void anew(BenchWithTails x, Random random) {
        for (int change = 0; change < 4; change++) {
            change(x, random);
            String jobs = State.jobs(x);
            String items = jobs.trim().replace(' ', ';');
            Check.due("answers of " + jobs, answers(x), answers(made(items)));
        }
    }

    private static void change(BenchWithTails x, Random random) {
        int job = random.nextInt(8);
        switch (random.nextInt(6)) {
            case 0:
                x.drop(job);
                break;
            case 1:
                x.job(random.nextInt(6), random.nextInt(30), 1 + random.nextInt(20), random.nextInt(30));
                break;
            case 2:
                Scenes.feed(x, "m3,4,5;p1,2,3");
                x.text();
                break;
            case 3:
                x.image();
                x.set(job, 0, random.nextInt(6));
                break;
            case 4:
                x.back();
                x.set(job, 1, random.nextInt(61));
                break;
            default:
                x.set(job, 2, 1 + random.nextInt(20));
                x.set(job, 3, random.nextInt(61));
                break;
        }
    }

    private static String answers(BenchWithTails x) {
        StringBuilder seen = new StringBuilder();
        for (int what = 0; what < 5; what++) {
            seen.append(x.greedy(-1, what)).append(' ').append(x.breaking(what)).append(' ');
            seen.append(x.critical(what)).append(' ').append(x.strongest(what)).append(' ');
            seen.append(x.branch(0, what)).append(' ').append(x.branch(1, what)).append(' ');
        }
        for (int job = 0; job < 8; job++) {
            seen.append(x.must(job)).append(' ').append(x.room(job)).append(' ').append(x.gain(job)).append(' ');
            seen.append(x.greedy(job, 0)).append(' ').append(x.order(job)).append(' ');
        }
        seen.append(x.many()).append(' ').append(x.drawn(5, 30)).append(' ');
        seen.append(x.chance(5, 8, 30, 99, 0)).append(' ');
        for (int what = 0; what < 3; what++) {
            seen.append(x.least(what)).append(' ');
        }
        return seen.toString();
    }
}
