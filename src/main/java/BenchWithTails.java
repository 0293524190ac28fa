import java.util.Arrays;

/**
 * One bench and jobs with tails: each comes at its hour, takes its time at the bench and cools
 * behind it without the bench. The words in capitals are those of the document (Terms).
 *
 * <p>Every row is made once, in a constructor, and used again: no call makes an object.
 */
public final class BenchWithTails {
    public static final int NONE = -1, BAD = -2, STATE = -3, FULL = -4;
    public static final long NO = -4611686018427387904L;

    private static final int SHEET_MISSING = -11, OUTSIDE = -12, OF_ANOTHER_SORT = -13, SIZE_BELOW_0 = -14;
    private static final int FAULT_AT_0 = -100;

    private static final int MOST_JOBS = 8, MOST_SETS = 256;
    private static final int MOST_BYTES = 60;
    private static final int MOST_SHEETS = 4, MOST_ITEMS = 40;
    private static final int MOST_ROOM = 99, MOST_SEEDS = 8, MOST_LATER = 30, MOST_FINISH = 999, MOST_NOW = 999;

    private static final int KIND = 0, RELEASE = 1, WORK = 2, TAIL = 3;
    private static final int PLAIN = 0, RUSH = 1, HEAVY = 2, DAWN = 3, DAMP = 4, SPLIT = 5;

    private final Jobs jobs;
    private final Jobs kept;
    private final Jobs items;
    private final Tape tape;
    private final Load asTold;
    private final Load thought;
    private final Laid greedyRow;
    private final Laid otherRow;
    private final Block block;
    private final Breaking broken;
    private final Search search;
    private final Orders orders;
    private final Truth truth;
    private final Sheet[] sheets;
    private boolean imageKept;
    private boolean leastKnown;
    private int leastFinish;
    private int leastNodes;
    private int leastToldAt;

    public BenchWithTails() {
        jobs = new Jobs();
        kept = new Jobs();
        items = new Jobs();
        tape = new Tape();
        asTold = new Load();
        thought = new Load();
        greedyRow = new Laid();
        otherRow = new Laid();
        block = new Block();
        broken = new Breaking();
        search = new Search();
        orders = new Orders();
        truth = new Truth();
        sheets = new Sheet[MOST_SHEETS];
        for (int i = 0; i < sheets.length; i++) {
            sheets[i] = new Sheet();
        }
    }

    // ---- jobs.

    public int feed(int n, int a, int b, int c, int d, int e) {
        if (n < 1 || n > 5 || !isByte(a) || !isByte(b) || !isByte(c) || !isByte(d) || !isByte(e)) {
            return BAD;
        }
        if (!tape.hasRoom(n)) {
            return FULL;
        }
        tape.add(a);
        if (n > 1) {
            tape.add(b);
        }
        if (n > 2) {
            tape.add(c);
        }
        if (n > 3) {
            tape.add(d);
        }
        if (n > 4) {
            tape.add(e);
        }
        return tape.size;
    }

    public int text() {
        int fault = tape.readItems(items);
        tape.clear();
        if (fault != NONE) {
            return FAULT_AT_0 - fault;
        }
        if (!jobs.hasRoom(items.size)) {
            return FULL;
        }
        jobs.addAll(items);
        tellAnew();
        return jobs.size;
    }

    public int job(int kind, int release, int work, int tail) {
        if (!Jobs.mayBe(KIND, kind) || !Jobs.mayBe(RELEASE, release)
                || !Jobs.mayBe(WORK, work) || !Jobs.mayBe(TAIL, tail)) {
            return BAD;
        }
        if (!jobs.hasRoom(1)) {
            return FULL;
        }
        jobs.add(kind, release, work, tail);
        tellAnew();
        return jobs.size - 1;
    }

    public int set(int job, int what, int v) {
        if (!jobs.holds(job) || !Jobs.mayBe(what, v)) {
            return BAD;
        }
        int was = jobs.value(what, job);
        jobs.change(what, job, v);
        tellAnew();
        return was;
    }

    public int told(int job, int what) {
        if (!jobs.holds(job) || what < 0 || what > 6) {
            return BAD;
        }
        switch (what) {
            case 4:
                return jobs.comesOf(job);
            case 5:
                return jobs.takesOf(job);
            case 6:
                return jobs.coolsOf(job);
            default:
                return jobs.value(what, job);
        }
    }

    public int drop(int job) {
        if (!jobs.holds(job)) {
            return BAD;
        }
        jobs.remove(job);
        tellAnew();
        return jobs.size;
    }

    public int taken(int job, int k) {
        if (!jobs.holds(job) || !Jobs.mayBe(KIND, k)) {
            return BAD;
        }
        if (!jobs.isOfKind(job, k)) {
            return OF_ANOTHER_SORT;
        }
        return jobs.takesOf(job) + jobs.coolsOf(job);
    }

    // ---- greedy, breaking, branches.

    public int greedy(int k, int what) {
        if (what < 0 || what > 1) {
            return BAD;
        }
        if (k < -1 || k >= jobs.size) {
            return OUTSIDE;
        }
        greedyRow.layGreedy(asTold);
        if (k == -1) {
            return what == 0 ? greedyRow.finish : greedyRow.idle;
        }
        int job = greedyRow.jobAt(k);
        return what == 0 ? job : greedyRow.beginOf(job);
    }

    public int breaking(int what) {
        if (what < 0 || what > 1) {
            return BAD;
        }
        broken.run(asTold);
        return what == 0 ? broken.finish : broken.times;
    }

    public int critical(int what) {
        if (what < 0 || what > 4) {
            return BAD;
        }
        if (jobs.size == 0) {
            return STATE;
        }
        findBlock();
        switch (what) {
            case 0:
                return block.last;
            case 1:
                return block.first;
            case 2:
                return block.bar;
            case 3:
                return block.behind;
            default:
                return block.size;
        }
    }

    public int branch(int side, int what) {
        if (side < 0 || side > 1 || what < 0 || what > 2) {
            return BAD;
        }
        findBlock();
        if (block.bar == NONE) {
            return STATE;
        }
        if (what == 2) {
            return side == 0 ? block.coolsThen : block.comesThen;
        }
        thought.becomeAs(asTold);
        if (side == 0) {
            thought.changeCools(block.bar, block.coolsThen);
        } else {
            thought.changeComes(block.bar, block.comesThen);
        }
        if (what == 0) {
            greedyRow.layGreedy(thought);
            return greedyRow.finish;
        }
        broken.run(thought);
        return broken.finish;
    }

    public int bound(int set) {
        if (set < 1 || set > asTold.everyone()) {
            return BAD;
        }
        return asTold.boundOf(set);
    }

    public int strongest(int what) {
        if (what < 0 || what > 1) {
            return BAD;
        }
        if (jobs.size == 0) {
            return STATE;
        }
        int set = asTold.strongestSet();
        return what == 0 ? set : asTold.boundOf(set);
    }

    // ---- the least.

    public int least(int what) {
        if (what < 0 || what > 2) {
            return BAD;
        }
        knowLeast();
        if (what == 0) {
            return leastFinish;
        }
        return what == 1 ? leastNodes : leastToldAt;
    }

    public int many() {
        knowLeast();
        return orders.ways(asTold);
    }

    public int order(int k) {
        if (k < 0 || k >= jobs.size) {
            return OUTSIDE;
        }
        knowLeast();
        orders.layFirst(asTold, otherRow);
        return otherRow.jobAt(k);
    }

    public int must(int job) {
        if (!jobs.holds(job)) {
            return BAD;
        }
        knowLeast();
        return orders.aheadOf(job);
    }

    public int room(int job) {
        if (!jobs.holds(job)) {
            return BAD;
        }
        knowLeast();
        return orders.roomOf(asTold, job);
    }

    public int gain(int job) {
        if (!jobs.holds(job)) {
            return BAD;
        }
        knowLeast();
        thought.becomeAs(asTold);
        thought.leaveOut(job);
        search.run(thought);
        return leastFinish - search.best;
    }

    // ---- told, drawn.

    public long judge(int sheet, int what) {
        if (!isSheet(sheet) || what < 0 || what > 3) {
            return BAD;
        }
        if (sheets[sheet].isMissing()) {
            return SHEET_MISSING;
        }
        if (!layTold(sheets[sheet])) {
            return STATE;
        }
        switch (what) {
            case 0:
                return otherRow.finish;
            case 1:
                return otherRow.idle;
            case 2:
                greedyRow.layGreedy(asTold);
                return otherRow.laterThan(greedyRow);
            default:
                return otherRow.longestWait(asTold);
        }
    }

    public int film(int sheet) {
        if (!isSheet(sheet)) {
            return BAD;
        }
        knowLeast();
        orders.layFirst(asTold, otherRow);
        Sheet target = sheets[sheet];
        target.become(Sheet.LONGS, jobs.size);
        for (int i = 0; i < jobs.size; i++) {
            target.write(i, otherRow.beginOf(i));
        }
        return jobs.size;
    }

    public int drawn(int seed, int n) {
        if (n < 0 || n > MOST_LATER) {
            return BAD;
        }
        thought.becomeAs(asTold);
        thought.comeLater(seed, n);
        search.run(thought);
        return search.best;
    }

    public int chance(int seed, int m, int n, int finish, int part) {
        if (m < 1 || m > MOST_SEEDS || n < 0 || n > MOST_LATER
                || finish < 0 || finish > MOST_FINISH || part < 0 || part > 1) {
            return BAD;
        }
        int hits = 0;
        for (int i = 0; i < m; i++) {
            thought.becomeAs(asTold);
            thought.comeLater(seed + i, n);
            greedyRow.layGreedy(thought);
            if (greedyRow.finish <= finish) {
                hits++;
            }
        }
        int asked = part == 0 ? hits : m;
        for (int d = m; d > 1; d--) {
            if (hits % d == 0 && m % d == 0) {
                return asked / d;
            }
        }
        return asked;
    }

    // ---- in truth.

    public int go(int n) {
        if (n < 1 || n > 60) {
            return BAD;
        }
        if (truth.now + n > MOST_NOW) {
            return FULL;
        }
        for (int i = 0; i < n; i++) {
            truth.passHour(asTold);
        }
        return truth.now;
    }

    public int bench(int what) {
        switch (what) {
            case 0:
                return truth.now;
            case 1:
                return truth.atBench;
            case 2:
                return truth.ended;
            case 3:
                return truth.idle;
            default:
                return BAD;
        }
    }

    public int began(int job) {
        if (!jobs.holds(job)) {
            return BAD;
        }
        return truth.hourOf(job);
    }

    public int image() {
        kept.becomeAs(jobs);
        imageKept = true;
        return kept.size;
    }

    public int back() {
        if (!imageKept) {
            return STATE;
        }
        jobs.becomeAs(kept);
        tellAnew();
        return jobs.size;
    }

    public int count(int what) {
        switch (what) {
            case 0:
                return jobs.size;
            case 1:
                return asTold.takesOfAll();
            case 2:
                return tape.size;
            default:
                return BAD;
        }
    }

    // ---- the host.

    public int sheet(int sheet, int sort, int n) {
        if (!isSheet(sheet) || sort < Sheet.MISSING || sort > Sheet.INTS) {
            return BAD;
        }
        if (sort == Sheet.MISSING) {
            sheets[sheet].become(Sheet.MISSING, 0);
            return 1;
        }
        if (n > MOST_ITEMS) {
            return BAD;
        }
        if (n < 0) {
            return SIZE_BELOW_0;
        }
        sheets[sheet].become(sort, n);
        return 1;
    }

    public int put(int sheet, int i, long v) {
        if (!isSheet(sheet)) {
            return BAD;
        }
        if (sheets[sheet].isMissing()) {
            return SHEET_MISSING;
        }
        if (!sheets[sheet].holds(i)) {
            return OUTSIDE;
        }
        sheets[sheet].write(i, v);
        return 1;
    }

    public long item(int sheet, int i) {
        if (!isSheet(sheet) || !sheets[sheet].holds(i)) {
            return NO;
        }
        return sheets[sheet].read(i);
    }

    public int copy(int sheet, int i, int other, int j, int n) {
        if (!isSheet(sheet) || !isSheet(other)) {
            return BAD;
        }
        Sheet from = sheets[sheet];
        Sheet to = sheets[other];
        if (from.isMissing() || to.isMissing()) {
            return SHEET_MISSING;
        }
        if (from.sort != to.sort) {
            return OF_ANOTHER_SORT;
        }
        if (!from.holdsRow(i, n) || !to.holdsRow(j, n)) {
            return OUTSIDE;
        }
        to.takeOver(from, i, j, n);
        return n;
    }

    // ---- what several calls need.

    private static boolean isByte(int v) {
        return v >= 0 && v <= 255;
    }

    private boolean isSheet(int sheet) {
        return sheet >= 0 && sheet < sheets.length && sheets[sheet] != null;
    }

    /** Whatever hangs on JOBS begins anew, as the document asks of NOW. */
    private void tellAnew() {
        asTold.readFrom(jobs);
        truth.beginAnew();
        leastKnown = false;
    }

    private void findBlock() {
        greedyRow.layGreedy(asTold);
        block.find(asTold, greedyRow);
    }

    private void knowLeast() {
        if (leastKnown) {
            return;
        }
        thought.becomeAs(asTold);
        search.run(thought);
        leastFinish = search.best;
        leastNodes = search.nodes;
        leastToldAt = search.bestAt;
        orders.weigh(asTold, leastFinish);
        leastKnown = true;
    }

    /** Lays the ORDER that a SHEET tells: whether it is one of all JOBS, each once. */
    private boolean layTold(Sheet told) {
        if (told.size != jobs.size) {
            return false;
        }
        otherRow.clear();
        for (int k = 0; k < told.size; k++) {
            long number = told.read(k);
            if (number < 0 || number >= jobs.size || otherRow.has((int) number)) {
                return false;
            }
            otherRow.append(asTold, (int) number);
        }
        return true;
    }

    /** What is told of JOBS, and what follows of it by their KINDS. */
    private static final class Jobs {
        /** By KIND the one that it is under: RUSH, HEAVY under PLAIN, DAWN under RUSH, and so on. */
        private static final int[] UNDER = {-1, 0, 0, 1, 2, 4};
        private static final int[] LEAST_TOLD = {0, 0, 1, 0};
        private static final int[] MOST_TOLD = {5, 60, 20, 60};

        private final int[][] rows;
        private int size;

        Jobs() {
            rows = new int[4][MOST_JOBS];
        }

        static boolean mayBe(int what, int v) {
            return what >= 0 && what < LEAST_TOLD.length && what < MOST_TOLD.length
                    && v >= LEAST_TOLD[what] && v <= MOST_TOLD[what];
        }

        boolean holds(int job) {
            return job >= 0 && job < size && job < MOST_JOBS;
        }

        boolean hasRoom(int n) {
            return size + n <= MOST_JOBS;
        }

        int value(int what, int job) {
            return what >= 0 && what < rows.length && holds(job) ? rows[what][job] : 0;
        }

        void change(int what, int job, int v) {
            if (what >= 0 && what < rows.length && holds(job)) {
                rows[what][job] = v;
            }
        }

        void clear() {
            size = 0;
        }

        void add(int kind, int release, int work, int tail) {
            if (!hasRoom(1)) {
                return;
            }
            int job = size;
            size++;
            change(KIND, job, kind);
            change(RELEASE, job, release);
            change(WORK, job, work);
            change(TAIL, job, tail);
        }

        void addAll(Jobs others) {
            for (int i = 0; i < others.size; i++) {
                add(others.value(KIND, i), others.value(RELEASE, i), others.value(WORK, i), others.value(TAIL, i));
            }
        }

        void becomeAs(Jobs other) {
            clear();
            addAll(other);
        }

        void remove(int job) {
            if (!holds(job)) {
                return;
            }
            for (int what = 0; what < rows.length; what++) {
                for (int i = job; i < size - 1; i++) {
                    change(what, i, value(what, i + 1));
                }
            }
            size--;
        }

        boolean isOfKind(int job, int k) {
            int kind = value(KIND, job);
            for (int step = 0; step < UNDER.length; step++) {
                if (kind == k) {
                    return true;
                }
                if (kind < 0 || kind >= UNDER.length) {
                    return false;
                }
                kind = UNDER[kind];
            }
            return false;
        }

        int comesOf(int job) {
            int release = value(RELEASE, job);
            if (isOfKind(job, DAWN)) {
                return release / 2;
            }
            return isOfKind(job, DAMP) ? release + 3 : release;
        }

        int takesOf(int job) {
            int work = value(WORK, job);
            int takes = isOfKind(job, HEAVY) ? work + work / 4 : work;
            return isOfKind(job, SPLIT) ? Math.max(1, takes - 1) : takes;
        }

        int coolsOf(int job) {
            int tail = value(TAIL, job);
            if (isOfKind(job, RUSH)) {
                return tail + 5;
            }
            return isOfKind(job, DAMP) ? tail * 2 : tail;
        }
    }

    /** THE TAPE, and how ITEMS are read from it. */
    private static final class Tape {
        private final int[] bytes;
        private int size;
        private int place;

        Tape() {
            bytes = new int[MOST_BYTES];
        }

        boolean hasRoom(int n) {
            return size + n <= MOST_BYTES;
        }

        void add(int v) {
            if (size >= 0 && size < bytes.length) {
                bytes[size] = v;
                size++;
            }
        }

        void clear() {
            size = 0;
        }

        /** Reads all ITEMS (in 60 bytes there are 8 at most, so all have room): the place of the FAULT, or NONE. */
        int readItems(Jobs items) {
            items.clear();
            place = 0;
            for (int n = 0; n <= MOST_BYTES; n++) {
                if (!readItem(items)) {
                    return place;
                }
                if (place == size) {
                    return NONE;
                }
                if (!readSign(';')) {
                    return place;
                }
            }
            return place;
        }

        /** Reads one of ITEMS; if it can't, the place stays at the FAULT. */
        private boolean readItem(Jobs items) {
            int kind = kindOf(byteHere());
            if (kind == NONE) {
                return false;
            }
            place++;
            int release = readNumber(RELEASE);
            if (release == NONE || !readSign(',')) {
                return false;
            }
            int work = readNumber(WORK);
            if (work == NONE || !readSign(',')) {
                return false;
            }
            int tail = readNumber(TAIL);
            if (tail == NONE) {
                return false;
            }
            items.add(kind, release, work, tail);
            return true;
        }

        private boolean readSign(int sign) {
            if (byteHere() != sign) {
                return false;
            }
            place++;
            return true;
        }

        private int readNumber(int what) {
            int start = place;
            int number = digitHere();
            if (number == NONE) {
                return NONE;
            }
            place++;
            int second = digitHere();
            if (second != NONE) {
                number = number * 10 + second;
                place++;
            }
            if (!Jobs.mayBe(what, number)) {
                place = start;
                return NONE;
            }
            return number;
        }

        private int digitHere() {
            int sign = byteHere();
            return sign >= '0' && sign <= '9' ? sign - '0' : NONE;
        }

        /** NONE behind the end, which is no byte, so that nothing can stand there. */
        private int byteHere() {
            return place >= 0 && place < size && place < bytes.length ? bytes[place] : NONE;
        }

        private static int kindOf(int letter) {
            switch (letter) {
                case 'p':
                    return PLAIN;
                case 'r':
                    return RUSH;
                case 'h':
                    return HEAVY;
                case 'd':
                    return DAWN;
                case 'm':
                    return DAMP;
                case 's':
                    return SPLIT;
                default:
                    return NONE;
            }
        }
    }

    /** JOBS as numbers alone: when each COMES, what it TAKES and COOLS; as told, or in thought. */
    private static final class Load {
        private final int[] comes;
        private final int[] takes;
        private final int[] cools;
        private int size;

        Load() {
            comes = new int[MOST_JOBS];
            takes = new int[MOST_JOBS];
            cools = new int[MOST_JOBS];
        }

        void readFrom(Jobs jobs) {
            size = 0;
            for (int i = 0; i < jobs.size && i < MOST_JOBS; i++) {
                comes[i] = jobs.comesOf(i);
                takes[i] = jobs.takesOf(i);
                cools[i] = jobs.coolsOf(i);
                size++;
            }
        }

        void becomeAs(Load other) {
            size = 0;
            for (int i = 0; i < other.size && i < MOST_JOBS; i++) {
                comes[i] = other.comes[i];
                takes[i] = other.takes[i];
                cools[i] = other.cools[i];
                size++;
            }
        }

        void leaveOut(int job) {
            if (!holds(job)) {
                return;
            }
            for (int i = job; i < size - 1 && i < MOST_JOBS - 1; i++) {
                comes[i] = comes[i + 1];
                takes[i] = takes[i + 1];
                cools[i] = cools[i + 1];
            }
            size--;
        }

        /** DRAWN: each COMES later by what its own z gives. */
        void comeLater(int seed, int n) {
            if (n < 0) {
                return;
            }
            int z = seed;
            for (int i = 0; i < size; i++) {
                z = z * 1103515245 + 12345;
                changeComes(i, comesOf(i) + (z >>> 9) % (n + 1));
            }
        }

        boolean holds(int job) {
            return job >= 0 && job < size && job < MOST_JOBS;
        }

        int everyone() {
            return (1 << size) - 1;
        }

        int comesOf(int job) {
            return job >= 0 && job < size && job < comes.length ? comes[job] : 0;
        }

        int takesOf(int job) {
            return job >= 0 && job < size && job < takes.length ? takes[job] : 0;
        }

        int coolsOf(int job) {
            return job >= 0 && job < size && job < cools.length ? cools[job] : 0;
        }

        int takesOfAll() {
            int sum = 0;
            for (int i = 0; i < size; i++) {
                sum += takesOf(i);
            }
            return sum;
        }

        /** Answers what it was, so that a BRANCH can be taken back. */
        int changeCools(int job, int v) {
            int was = coolsOf(job);
            if (holds(job)) {
                cools[job] = v;
            }
            return was;
        }

        /** Answers what it was, so that a BRANCH can be taken back. */
        int changeComes(int job, int v) {
            int was = comesOf(job);
            if (holds(job)) {
                comes[job] = v;
            }
            return was;
        }

        /** Of those who have COME by the hour and are not done the one that BEGINS by GREEDY; NONE. */
        int nextToBegin(int done, int hour) {
            int best = NONE;
            for (int i = 0; i < size; i++) {
                if ((done >> i & 1) != 0 || comesOf(i) > hour) {
                    continue;
                }
                if (best == NONE || coolsOf(i) > coolsOf(best)
                        || coolsOf(i) == coolsOf(best) && takesOf(i) > takesOf(best)) {
                    best = i;
                }
            }
            return best;
        }

        /** The first hour, from this one on, by which one who is not done has COME. */
        int hourOfSome(int done, int hour) {
            int first = NONE;
            for (int i = 0; i < size; i++) {
                if ((done >> i & 1) == 0 && (first == NONE || comesOf(i) < first)) {
                    first = comesOf(i);
                }
            }
            return Math.max(first, hour);
        }

        /** The first hour behind this one and ahead of END at which one COMES that COOLS longer; END. */
        int hourOfLonger(int job, int hour, int end) {
            int first = end;
            for (int i = 0; i < size; i++) {
                if (comesOf(i) > hour && comesOf(i) < first && coolsOf(i) > coolsOf(job)) {
                    first = comesOf(i);
                }
            }
            return first;
        }

        int boundOf(int set) {
            int come = NONE;
            int take = 0;
            int cool = NONE;
            for (int i = 0; i < size; i++) {
                if ((set >> i & 1) != 0) {
                    come = come == NONE ? comesOf(i) : Math.min(come, comesOf(i));
                    take += takesOf(i);
                    cool = cool == NONE ? coolsOf(i) : Math.min(cool, coolsOf(i));
                }
            }
            return come + take + cool;
        }

        int strongestSet() {
            int best = 1;
            int bestBound = boundOf(best);
            for (int set = 2; set <= everyone(); set++) {
                int bound = boundOf(set);
                if (bound > bestBound || bound == bestBound && Integer.bitCount(set) < Integer.bitCount(best)) {
                    best = set;
                    bestBound = bound;
                }
            }
            return best;
        }
    }

    /** AN ORDER as it is laid: who, when each BEGINS, what comes of it. */
    private static final class Laid {
        private final int[] row;
        private final int[] begins;
        private final int[] ends;
        private int size;
        private int members;
        private int end;
        private int finish;
        private int idle;

        Laid() {
            row = new int[MOST_JOBS];
            begins = new int[MOST_JOBS];
            ends = new int[MOST_JOBS];
        }

        void clear() {
            size = 0;
            members = 0;
            end = 0;
            finish = 0;
            idle = 0;
        }

        boolean has(int job) {
            return job >= 0 && job < MOST_JOBS && (members >> job & 1) != 0;
        }

        void append(Load load, int job) {
            if (!load.holds(job) || size >= row.length || job >= begins.length || job >= ends.length) {
                return;
            }
            int begin = Math.max(end, load.comesOf(job));
            idle += begin - end;
            end = begin + load.takesOf(job);
            finish = Math.max(finish, end + load.coolsOf(job));
            begins[job] = begin;
            ends[job] = end;
            members |= 1 << job;
            row[size] = job;
            size++;
        }

        void layGreedy(Load load) {
            clear();
            for (int k = 0; k < load.size; k++) {
                append(load, load.nextToBegin(members, load.hourOfSome(members, end)));
            }
        }

        int jobAt(int k) {
            return k >= 0 && k < size && k < row.length ? row[k] : NONE;
        }

        int beginOf(int job) {
            return job >= 0 && job < begins.length && (members >> job & 1) != 0 ? begins[job] : NONE;
        }

        int endOf(int job) {
            return job >= 0 && job < ends.length && (members >> job & 1) != 0 ? ends[job] : NONE;
        }

        int laterThan(Laid other) {
            int later = 0;
            for (int k = 0; k < size; k++) {
                if (beginOf(jobAt(k)) > other.beginOf(jobAt(k))) {
                    later++;
                }
            }
            return later;
        }

        int longestWait(Load load) {
            int longest = 0;
            for (int k = 0; k < size; k++) {
                longest = Math.max(longest, beginOf(jobAt(k)) - load.comesOf(jobAt(k)));
            }
            return longest;
        }
    }

    /** CRITICAL of a GREEDY row, and what its two BRANCHES change. */
    private static final class Block {
        private int last;
        private int first;
        private int bar;
        private int behind;
        private int size;
        private int coolsThen;
        private int comesThen;

        void find(Load load, Laid laid) {
            int lastPlace = placeOfLast(load, laid);
            int firstPlace = lastPlace;
            while (firstPlace > 0 && laid.beginOf(laid.jobAt(firstPlace)) == laid.endOf(laid.jobAt(firstPlace - 1))) {
                firstPlace--;
            }
            last = laid.jobAt(lastPlace);
            first = laid.jobAt(firstPlace);
            size = lastPlace - firstPlace + 1;
            findBar(load, laid, firstPlace, lastPlace);
        }

        private static int placeOfLast(Load load, Laid laid) {
            int place = NONE;
            for (int k = 0; k < laid.size; k++) {
                int job = laid.jobAt(k);
                if (laid.endOf(job) + load.coolsOf(job) == laid.finish) {
                    place = k;
                }
            }
            return place;
        }

        private void findBar(Load load, Laid laid, int firstPlace, int lastPlace) {
            bar = NONE;
            behind = 0;
            int taken = 0;
            int soonest = NONE;
            for (int k = lastPlace; k >= firstPlace && k >= 0; k--) {
                int job = laid.jobAt(k);
                if (load.coolsOf(job) < load.coolsOf(last)) {
                    bar = job;
                    coolsThen = Math.max(load.coolsOf(bar), taken + load.coolsOf(last));
                    comesThen = Math.max(load.comesOf(bar), soonest + taken);
                    return;
                }
                behind |= 1 << job;
                taken += load.takesOf(job);
                soonest = soonest == NONE ? load.comesOf(job) : Math.min(soonest, load.comesOf(job));
            }
            behind = 0;
        }
    }

    /** BREAKING: FINISH, and how often one was BROKEN OFF. */
    private static final class Breaking {
        private final int[] left;
        private int finish;
        private int times;

        Breaking() {
            left = new int[MOST_JOBS];
        }

        void run(Load load) {
            finish = 0;
            times = 0;
            for (int i = 0; i < left.length; i++) {
                left[i] = load.takesOf(i);
            }
            int ended = 0;
            int hour = 0;
            // Each round one ENDS, or is BROKEN OFF by one who COMES: no more than two a JOB.
            for (int round = 0; round < 2 * MOST_JOBS && ended != load.everyone(); round++) {
                hour = load.hourOfSome(ended, hour);
                int job = load.nextToBegin(ended, hour);
                if (job < 0 || job >= left.length) {
                    return;
                }
                int until = load.hourOfLonger(job, hour, hour + left[job]);
                left[job] -= until - hour;
                hour = until;
                if (left[job] > 0) {
                    times++;
                } else {
                    ended |= 1 << job;
                    finish = Math.max(finish, hour + load.coolsOf(job));
                }
            }
        }
    }

    /** SEARCH: the NODES that are open stand in rows, a level each. */
    private static final class Search {
        /**
         * No more can be open at once: in a NODE the hour at which a JOB COMES, what it TAKES and what
         * it COOLS are together 412 at most (less than BEST, or as told), and each BRANCH makes this
         * sum 2 more at least for its BAR: 8 JOBS by 206.
         */
        private static final int MOST_LEVELS = 1650;
        private static final int MOST_STEPS = 1000000;

        private final Laid laid;
        private final Block block;
        private final Breaking broken;
        private final int[] bars;
        private final int[] sides;
        private final int[] cools;
        private final int[] comes;
        private int levels;
        private int best;
        private int nodes;
        private int bestAt;

        Search() {
            laid = new Laid();
            block = new Block();
            broken = new Breaking();
            bars = new int[MOST_LEVELS];
            sides = new int[MOST_LEVELS];
            cools = new int[MOST_LEVELS];
            comes = new int[MOST_LEVELS];
        }

        /** The load changes from NODE to NODE and is as it was in the end. */
        void run(Load load) {
            levels = 0;
            best = NONE;
            nodes = 0;
            bestAt = 0;
            visitNode(load);
            for (int step = 0; step < MOST_STEPS && levels > 0; step++) {
                if (goOn(load)) {
                    visitNode(load);
                }
            }
        }

        private void visitNode(Load load) {
            nodes++;
            laid.layGreedy(load);
            if (best == NONE || laid.finish < best) {
                best = laid.finish;
                bestAt = nodes;
            }
            block.find(load, laid);
            if (block.bar != NONE && levels >= 0 && levels < MOST_LEVELS) {
                bars[levels] = block.bar;
                sides[levels] = 0;
                cools[levels] = block.coolsThen;
                comes[levels] = block.comesThen;
                levels++;
            }
        }

        /**
         * Goes on with the innermost open NODE: to its BRANCH 0, from there to its BRANCH 1, from there
         * out of it. Its row keeps what the load hasn't: the changed number or the one that it was.
         * Answers whether a BRANCH was reached that is a NODE.
         */
        private boolean goOn(Load load) {
            int level = levels - 1;
            if (level < 0 || level >= MOST_LEVELS) {
                return false;
            }
            int side = sides[level];
            sides[level]++;
            if (side < 2) {
                cools[level] = load.changeCools(bars[level], cools[level]);
            }
            if (side > 0) {
                comes[level] = load.changeComes(bars[level], comes[level]);
            }
            if (side > 1) {
                levels--;
                return false;
            }
            broken.run(load);
            return broken.finish < best;
        }
    }

    /**
     * LEAST ORDERS, by sets of JOBS: a set can stand ahead of all others, if it can be through (each in
     * time for LEAST) by the latest hour at which the others must be taken up.
     */
    private static final class Orders {
        private static final int NEVER = 1000000, ANY_HOUR = 100000;
        private static final int MOST_HOURS = 1024, SLOTS = 512;

        private final int[] through;
        private final int[] takenUp;
        private final int[] slotKeys;
        private final int[] slotWays;
        private int everyone;
        private int limit;

        Orders() {
            through = new int[MOST_SETS];
            takenUp = new int[MOST_SETS];
            slotKeys = new int[SLOTS];
            slotWays = new int[SLOTS];
        }

        void weigh(Load load, int least) {
            everyone = load.everyone();
            limit = least;
            through[0] = 0;
            takenUp[0] = ANY_HOUR;
            for (int set = 1; set <= everyone && set < MOST_SETS; set++) {
                through[set] = soonestThrough(load, set);
                takenUp[set] = latestTakenUp(load, set);
            }
        }

        /** The first hour by which all of a set can have ENDED, from hour 0 on, in time; NEVER. */
        private int soonestThrough(Load load, int set) {
            int best = NEVER;
            for (int i = 0; i < load.size; i++) {
                if ((set >> i & 1) != 0) {
                    int end = Math.max(throughOf(set & ~(1 << i)), load.comesOf(i)) + load.takesOf(i);
                    if (end + load.coolsOf(i) <= limit) {
                        best = Math.min(best, end);
                    }
                }
            }
            return best;
        }

        /** The last hour from which on all of a set can still be in time; NONE. */
        private int latestTakenUp(Load load, int set) {
            int best = NONE;
            for (int i = 0; i < load.size; i++) {
                if ((set >> i & 1) != 0) {
                    int begin = latestBegin(load, i, set & ~(1 << i));
                    if (begin >= load.comesOf(i)) {
                        best = Math.max(best, begin);
                    }
                }
            }
            return best;
        }

        /** The last hour at which a JOB may BEGIN, if those of the set come behind it. */
        private int latestBegin(Load load, int job, int set) {
            return Math.min(limit - load.coolsOf(job), takenUpOf(set)) - load.takesOf(job);
        }

        private int throughOf(int set) {
            return set >= 0 && set < through.length ? through[set] : NEVER;
        }

        private int takenUpOf(int set) {
            return set >= 0 && set < takenUp.length ? takenUp[set] : NONE;
        }

        private boolean canStandAhead(int set) {
            return throughOf(set) <= takenUpOf(everyone & ~set);
        }

        int aheadOf(int job) {
            int always = everyone;
            for (int set = 1; set <= everyone; set++) {
                if ((set >> job & 1) != 0 && canStandAhead(set)) {
                    always &= set;
                }
            }
            return always & ~(1 << job);
        }

        int roomOf(Load load, int job) {
            int room = 0;
            for (int set = 0; set <= everyone; set++) {
                if ((set >> job & 1) == 0) {
                    int begin = latestBegin(load, job, everyone & ~set & ~(1 << job));
                    if (begin >= throughOf(set)) {
                        room = Math.max(room, begin - load.comesOf(job));
                    }
                }
            }
            return Math.min(room, MOST_ROOM);
        }

        void layFirst(Load load, Laid laid) {
            laid.clear();
            for (int k = 0; k < load.size; k++) {
                laid.append(load, firstToGoOn(load, laid));
            }
        }

        private int firstToGoOn(Load load, Laid laid) {
            int left = everyone & ~laid.members;
            for (int i = 0; i < load.size; i++) {
                if ((left >> i & 1) != 0) {
                    int begin = Math.max(laid.end, load.comesOf(i));
                    if (begin <= latestBegin(load, i, left & ~(1 << i))) {
                        return i;
                    }
                }
            }
            return NONE;
        }

        int ways(Load load) {
            Arrays.fill(slotKeys, NONE);
            return waysFrom(this, load, everyone, 0, 0);
        }

        /**
         * How many ORDERS of those who are left stay in time from an hour on. Many ORDERS of the same
         * ones END at the same hour: what is known of a set and an hour is kept in a slot, until
         * another one needs it.
         */
        private static int waysFrom(Orders orders, Load load, int left, int hour, int depth) {
            if (left == 0) {
                return 1;
            }
            if (depth >= MOST_JOBS || hour > orders.takenUpOf(left)) {
                return 0;
            }
            int key = left * MOST_HOURS + hour;
            int slot = (left * 37 + hour) & (SLOTS - 1);
            if (orders.slotKeys[slot] == key) {
                return orders.slotWays[slot];
            }
            int ways = 0;
            for (int i = 0; i < load.size; i++) {
                if ((left >> i & 1) != 0) {
                    int rest = left & ~(1 << i);
                    int begin = Math.max(hour, load.comesOf(i));
                    if (begin <= orders.latestBegin(load, i, rest)) {
                        ways += waysFrom(orders, load, rest, begin + load.takesOf(i), depth + 1);
                    }
                }
            }
            orders.slotKeys[slot] = key;
            orders.slotWays[slot] = ways;
            return ways;
        }
    }

    /** IN TRUTH: the bench hour by hour. */
    private static final class Truth {
        private final int[] hours;
        private int now;
        private int atBench;
        private int left;
        private int begun;
        private int ended;
        private int idle;

        Truth() {
            hours = new int[MOST_JOBS];
            atBench = NONE;
        }

        void beginAnew() {
            now = 0;
            atBench = NONE;
            left = 0;
            begun = 0;
            ended = 0;
            idle = 0;
        }

        int hourOf(int job) {
            return job >= 0 && job < hours.length && (begun >> job & 1) != 0 ? hours[job] : NONE;
        }

        void passHour(Load load) {
            if (atBench == NONE) {
                begin(load, load.nextToBegin(begun, now));
            }
            now++;
            if (atBench == NONE) {
                idle++;
                return;
            }
            left--;
            if (left <= 0) {
                ended |= 1 << atBench;
                atBench = NONE;
            }
        }

        private void begin(Load load, int job) {
            if (job < 0 || job >= hours.length) {
                return;
            }
            atBench = job;
            left = load.takesOf(job);
            begun |= 1 << job;
            hours[job] = now;
        }
    }

    /** A SHEET: its row has room for the most items there may be; an int stands there as a long. */
    private static final class Sheet {
        private static final int MISSING = -1, LONGS = 0, INTS = 1;

        private final long[] numbers;
        private int sort;
        private int size;

        Sheet() {
            numbers = new long[MOST_ITEMS];
            sort = MISSING;
        }

        boolean isMissing() {
            return sort == MISSING;
        }

        void become(int newSort, int n) {
            sort = newSort;
            size = Math.max(0, Math.min(n, numbers.length));
            Arrays.fill(numbers, 0L);
        }

        boolean holds(int i) {
            return i >= 0 && i < size && i < numbers.length;
        }

        boolean holdsRow(int i, int n) {
            return i >= 0 && n >= 0 && n <= size && i <= size - n;
        }

        long read(int i) {
            return holds(i) ? numbers[i] : NO;
        }

        void write(int i, long v) {
            if (holds(i)) {
                numbers[i] = sort == INTS ? (int) v : v;
            }
        }

        void takeOver(Sheet from, int i, int j, int n) {
            if (from.holdsRow(i, n) && holdsRow(j, n)) {
                System.arraycopy(from.numbers, i, numbers, j, n);
            }
        }
    }
}
