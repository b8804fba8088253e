import java.util.Arrays;

/** A shop of machines: jobs of steps, orders of machines, plans of earliest times, and lower bounds. */
public final class ShopRules {
    public static final long NOTHING = Long.MIN_VALUE;

    private static final int NO_SUCH = -1;
    private static final int OUTSIDE = -2;
    private static final int NOT_NOW = -3;
    private static final int NO_ROOM = -4;

    private static final int MOST_MACHINES = 5;
    private static final int MOST_JOBS = 8;
    private static final int MOST_STEPS_OF_JOB = 6;
    private static final int MOST_STEPS = MOST_JOBS * MOST_STEPS_OF_JOB;
    private static final int MOST_DATE = 1000;
    private static final int MOST_WEIGHT = 20;
    private static final int MOST_TIME = 50;
    private static final int LAST_RULE = 3;
    /** Above every time, date and end that can be. */
    private static final int FAR = 1_000_000;

    /** A step's number is this times its job, and its place there; rows of steps are held by this number. */
    private static final int JOB_FACTOR = 10;
    private static final int STEP_NUMBERS = MOST_JOBS * JOB_FACTOR;

    private static final int PLANNED = 0;
    private static final int SOME_OPEN = 1;
    private static final int RING = 2;

    private final Shop shop;
    private final Plan plan;
    private final Plan trial;
    private final Filling filling;
    private final Bounds bounds;

    public ShopRules(int machines) {
        shop = new Shop(Math.max(1, Math.min(MOST_MACHINES, machines)));
        plan = new Plan(shop);
        trial = new Plan(shop);
        filling = new Filling(shop);
        bounds = new Bounds(shop);
    }

    public int job(int release, int due, int weight) {
        if (!isWithin(release, MOST_DATE) || !isWithin(due, MOST_DATE) || !isWithin(weight, MOST_WEIGHT)) {
            return OUTSIDE;
        }
        if (shop.jobs >= MOST_JOBS) {
            return NO_ROOM;
        }
        return shop.addJob(release, due, weight);
    }

    public int step(int job, int machine, int time) {
        if (!shop.hasJob(job)) {
            return NO_SUCH;
        }
        if (!shop.hasMachine(machine) || !isWithin(time, MOST_TIME)) {
            return OUTSIDE;
        }
        if (shop.counts[job] >= MOST_STEPS_OF_JOB) {
            return NO_ROOM;
        }
        // A new step brings longer tails to the steps of its job on all machines.
        bounds.forget();
        return shop.addStep(job, machine, time);
    }

    public int change(int machine, int a, int b, int t) {
        if (!shop.hasMachine(machine) || !shop.hasJob(a) || !shop.hasJob(b) || a == b) {
            return NO_SUCH;
        }
        if (!isWithin(t, MOST_TIME)) {
            return OUTSIDE;
        }
        int before = shop.changeBetween(machine, a, b);
        shop.setChange(machine, a, b, t);
        return before;
    }

    // ---- orders

    public int put(int step, int place) {
        if (!shop.hasStep(step)) {
            return NO_SUCH;
        }
        int machine = shop.machineOf[step];
        if (!isWithin(place, shop.sizes[machine])) {
            return OUTSIDE;
        }
        if (shop.isOrdered[step]) {
            return NOT_NOW;
        }
        shop.insert(step, place);
        return shop.sizes[machine];
    }

    public int take(int step) {
        if (!shop.hasStep(step)) {
            return NO_SUCH;
        }
        if (!shop.isOrdered[step]) {
            return NOT_NOW;
        }
        return shop.remove(step);
    }

    public int swap(int machine, int place) {
        if (!shop.hasNeighbours(machine, place)) {
            return NO_SUCH;
        }
        shop.exchange(machine, place);
        return 1;
    }

    public int at(int machine, int place) {
        if (!shop.hasMachine(machine)) {
            return NO_SUCH;
        }
        int size = shop.sizes[machine];
        if (place == -1) {
            return size;
        }
        return place >= 0 && place < size ? shop.orders[machine][place] : NO_SUCH;
    }

    public int fill(int rule) {
        if (!isWithin(rule, LAST_RULE)) {
            return OUTSIDE;
        }
        filling.run(rule);
        return shop.steps;
    }

    // ---- the plan

    public int state() {
        return plan.draw();
    }

    public int when(int step, int what) {
        if (!shop.hasStep(step)) {
            return NO_SUCH;
        }
        if (!isWithin(what, 2)) {
            return OUTSIDE;
        }
        if (plan.draw() != PLANNED) {
            return NOT_NOW;
        }
        if (what == 0) {
            return plan.begins[step];
        }
        if (what == 1) {
            return plan.endOf(step);
        }
        plan.measureRests();
        return plan.slackOf(step);
    }

    public int span() {
        return plan.draw() == PLANNED ? plan.greatestEnd : NOT_NOW;
    }

    public long late() {
        if (plan.draw() != PLANNED) {
            return NOTHING;
        }
        long cost = 0;
        for (int job = 0; job < shop.jobs; job++) {
            long behind = Math.max(0, plan.endOfJob(job) - shop.dues[job]);
            cost += shop.weights[job] * behind;
        }
        return cost;
    }

    public int swapped(int machine, int place) {
        if (!shop.hasNeighbours(machine, place)) {
            return NO_SUCH;
        }
        if (plan.draw() != PLANNED) {
            return NOT_NOW;
        }
        return spanOfTrial(machine, place);
    }

    public int better() {
        if (plan.draw() != PLANNED) {
            return NOT_NOW;
        }
        plan.measureRests();
        int best = NOT_NOW;
        int least = plan.greatestEnd;
        for (int machine = 0; machine < shop.machines; machine++) {
            for (int place = 0; place + 1 < shop.sizes[machine]; place++) {
                if (!areCritical(machine, place)) {
                    continue;
                }
                int reached = spanOfTrial(machine, place);
                if (reached != NOT_NOW && reached < least) {
                    least = reached;
                    best = 100 * machine + place;
                }
            }
        }
        return best;
    }

    // ---- bounds

    public int part(int step, int what) {
        if (!shop.hasStep(step)) {
            return NO_SUCH;
        }
        if (!isWithin(what, 1)) {
            return OUTSIDE;
        }
        return what == 0 ? shop.headOf(step) : shop.tailOf(step);
    }

    public int bound(int machine) {
        if (!shop.hasMachine(machine)) {
            return NO_SUCH;
        }
        return bounds.hasOne(machine) ? bounds.ofMachine(machine) : NOT_NOW;
    }

    public int low() {
        return bounds.greatest();
    }

    public long share() throws ArithmeticException {
        if (plan.draw() != PLANNED) {
            return NOTHING;
        }
        long least = bounds.greatest();
        if (least == 0) {
            throw new ArithmeticException("LOW is 0");
        }
        return 1000L * plan.greatestEnd / least;
    }

    private static boolean isWithin(int value, int most) {
        return value >= 0 && value <= most;
    }

    private boolean areCritical(int machine, int place) {
        int[] order = shop.orders[machine];
        return plan.slackOf(order[place]) == 0 && plan.slackOf(order[place + 1]) == 0;
    }

    /** The span with two neighbours exchanged, or NOT_NOW; the order is as before when this ends. */
    private int spanOfTrial(int machine, int place) {
        shop.exchange(machine, place);
        int reached = trial.draw() == PLANNED ? trial.greatestEnd : NOT_NOW;
        shop.exchange(machine, place);
        return reached;
    }

    /** What has been told: jobs, steps, changes and orders. */
    private static final class Shop {
        final int machines;
        int jobs = 0;
        int steps = 0;
        int orderedSteps = 0;
        final int[] releases = new int[MOST_JOBS];
        final int[] dues = new int[MOST_JOBS];
        final int[] weights = new int[MOST_JOBS];
        final int[] counts = new int[MOST_JOBS];
        final int[] machineOf = new int[STEP_NUMBERS];
        final int[] times = new int[STEP_NUMBERS];
        final boolean[] isOrdered = new boolean[STEP_NUMBERS];
        final int[][] orders;
        final int[] sizes;
        final int[] changes;

        Shop(int machines) {
            this.machines = machines;
            orders = new int[machines][MOST_STEPS];
            sizes = new int[machines];
            changes = new int[machines * MOST_JOBS * MOST_JOBS];
        }

        boolean hasMachine(int machine) {
            return machine >= 0 && machine < machines;
        }

        boolean hasJob(int job) {
            return job >= 0 && job < jobs;
        }

        boolean hasStep(int step) {
            return step >= 0 && hasJob(step / JOB_FACTOR) && step % JOB_FACTOR < counts[step / JOB_FACTOR];
        }

        boolean hasNeighbours(int machine, int place) {
            return hasMachine(machine) && place >= 0 && place < sizes[machine] - 1;
        }

        int addJob(int release, int due, int weight) {
            releases[jobs] = release;
            dues[jobs] = due;
            weights[jobs] = weight;
            return jobs++;
        }

        int addStep(int job, int machine, int time) {
            int step = JOB_FACTOR * job + counts[job];
            machineOf[step] = machine;
            times[step] = time;
            steps++;
            return ++counts[job];
        }

        /** Of a job to itself it is 0, since setChange is never told of such a pair. */
        int changeBetween(int machine, int a, int b) {
            return changes[(machine * MOST_JOBS + a) * MOST_JOBS + b];
        }

        void setChange(int machine, int a, int b, int time) {
            changes[(machine * MOST_JOBS + a) * MOST_JOBS + b] = time;
        }

        void insert(int step, int place) {
            int machine = machineOf[step];
            int[] order = orders[machine];
            for (int to = sizes[machine]; to > place; to--) {
                order[to] = order[to - 1];
            }
            order[place] = step;
            sizes[machine]++;
            isOrdered[step] = true;
            orderedSteps++;
        }

        int remove(int step) {
            int machine = machineOf[step];
            int[] order = orders[machine];
            int last = sizes[machine] - 1;
            int place = 0;
            while (place < last && order[place] != step) {
                place++;
            }
            for (int to = place; to < last; to++) {
                order[to] = order[to + 1];
            }
            sizes[machine] = last;
            isOrdered[step] = false;
            orderedSteps--;
            return place;
        }

        void exchange(int machine, int place) {
            int[] order = orders[machine];
            int step = order[place];
            order[place] = order[place + 1];
            order[place + 1] = step;
        }

        void emptyOrders() {
            Arrays.fill(sizes, 0);
            for (int step = 0; step < STEP_NUMBERS; step++) {
                isOrdered[step] = false;
            }
            orderedSteps = 0;
        }

        int headOf(int step) {
            int job = step / JOB_FACTOR;
            return releases[job] + timeOf(job, 0, step % JOB_FACTOR);
        }

        int tailOf(int step) {
            int job = step / JOB_FACTOR;
            return timeOf(job, step % JOB_FACTOR + 1, counts[job]);
        }

        /** All times of the steps of a job from one place to before another. */
        int timeOf(int job, int from, int to) {
            int sum = 0;
            for (int place = from; place < to; place++) {
                sum += times[JOB_FACTOR * job + place];
            }
            return sum;
        }
    }

    /** The earliest times of all steps, as the orders stood at the last draw(). */
    private static final class Plan {
        final Shop shop;
        int greatestEnd = 0;
        final int[] begins = new int[STEP_NUMBERS];
        /** The longest way from the begin of a step to an end, its own or a later one's. */
        private final int[] rests = new int[STEP_NUMBERS];
        private final int[] placeOf = new int[STEP_NUMBERS];
        /** The steps in a row in which each comes behind all that it waits for. */
        private final int[] sequence = new int[MOST_STEPS];
        private int drawn = 0;
        private final int[] drawnOfJob = new int[MOST_JOBS];
        private final int[] drawnOfMachine = new int[MOST_MACHINES];

        Plan(Shop shop) {
            this.shop = shop;
        }

        int draw() {
            if (shop.orderedSteps < shop.steps) {
                return SOME_OPEN;
            }
            greatestEnd = 0;
            drawn = 0;
            Arrays.fill(drawnOfJob, 0);
            Arrays.fill(drawnOfMachine, 0);
            boolean isMoving = true;
            for (int round = 0; isMoving && round < MOST_STEPS; round++) {
                int before = drawn;
                drawWhatIsReady();
                isMoving = drawn > before;
            }
            return drawn == shop.steps ? PLANNED : RING;
        }

        private void drawWhatIsReady() {
            for (int machine = 0; machine < shop.machines; machine++) {
                int[] order = shop.orders[machine];
                int size = shop.sizes[machine];
                for (int place = drawnOfMachine[machine]; place < size && isReady(order[place]); place++) {
                    drawStep(machine, place);
                }
            }
        }

        private boolean isReady(int step) {
            return drawnOfJob[step / JOB_FACTOR] == step % JOB_FACTOR;
        }

        private void drawStep(int machine, int place) {
            int step = shop.orders[machine][place];
            int job = step / JOB_FACTOR;
            int begin = step % JOB_FACTOR == 0 ? shop.releases[job] : endOf(step - 1);
            if (place > 0) {
                int before = shop.orders[machine][place - 1];
                int change = shop.changeBetween(machine, before / JOB_FACTOR, job);
                begin = Math.max(begin, endOf(before) + change);
            }
            begins[step] = begin;
            placeOf[step] = place;
            greatestEnd = Math.max(greatestEnd, endOf(step));
            sequence[drawn++] = step;
            drawnOfJob[job]++;
            drawnOfMachine[machine]++;
        }

        int endOf(int step) {
            return begins[step] + shop.times[step];
        }

        int endOfJob(int job) {
            int count = shop.counts[job];
            return count == 0 ? shop.releases[job] : endOf(JOB_FACTOR * job + count - 1);
        }

        /** What slackOf() needs: backwards, so that a step's followers are known before it. */
        void measureRests() {
            for (int k = drawn - 1; k >= 0; k--) {
                int step = sequence[k];
                rests[step] = shop.times[step] + Math.max(restInJob(step), restInOrder(step));
            }
        }

        private int restInJob(int step) {
            boolean isLast = step % JOB_FACTOR + 1 == shop.counts[step / JOB_FACTOR];
            return isLast ? 0 : rests[step + 1];
        }

        private int restInOrder(int step) {
            int machine = shop.machineOf[step];
            int next = placeOf[step] + 1;
            if (next >= shop.sizes[machine]) {
                return 0;
            }
            int follower = shop.orders[machine][next];
            return shop.changeBetween(machine, step / JOB_FACTOR, follower / JOB_FACTOR) + rests[follower];
        }

        int slackOf(int step) {
            return greatestEnd - begins[step] - rests[step];
        }
    }

    /** Fills all orders anew by a rule. */
    private static final class Filling {
        private final Shop shop;
        private final int[] filledOfJob = new int[MOST_JOBS];
        private final int[] endOfJob = new int[MOST_JOBS];
        private final int[] endOfMachine = new int[MOST_MACHINES];
        /** When the next step of a job would begin; of no use for a job that has none. */
        private final int[] begins = new int[MOST_JOBS];

        Filling(Shop shop) {
            this.shop = shop;
        }

        void run(int rule) {
            shop.emptyOrders();
            Arrays.fill(filledOfJob, 0);
            System.arraycopy(shop.releases, 0, endOfJob, 0, MOST_JOBS);
            Arrays.fill(endOfMachine, 0);
            for (int round = 0; round < shop.steps; round++) {
                lookAhead();
                append(choose(rule, firstToEnd()));
            }
        }

        private boolean hasNext(int job) {
            return filledOfJob[job] < shop.counts[job];
        }

        private int nextOf(int job) {
            return JOB_FACTOR * job + filledOfJob[job];
        }

        private int machineOfNext(int job) {
            return shop.machineOf[nextOf(job)];
        }

        private int wouldEnd(int job) {
            return begins[job] + shop.times[nextOf(job)];
        }

        private void lookAhead() {
            for (int job = 0; job < shop.jobs; job++) {
                if (hasNext(job)) {
                    begins[job] = Math.max(endOfJob[job], readyFor(machineOfNext(job), job));
                }
            }
        }

        private int readyFor(int machine, int job) {
            int size = shop.sizes[machine];
            if (size == 0) {
                return 0;
            }
            int last = shop.orders[machine][size - 1];
            return endOfMachine[machine] + shop.changeBetween(machine, last / JOB_FACTOR, job);
        }

        /** There is one: run() goes no more rounds than there are steps. */
        private int firstToEnd() {
            int first = 0;
            int least = FAR;
            for (int job = 0; job < shop.jobs; job++) {
                if (hasNext(job) && wouldEnd(job) < least) {
                    first = job;
                    least = wouldEnd(job);
                }
            }
            return first;
        }

        private int choose(int rule, int first) {
            int machine = machineOfNext(first);
            int end = wouldEnd(first);
            int chosen = first;
            int least = FAR;
            for (int job = 0; job < shop.jobs; job++) {
                if (!hasNext(job) || machineOfNext(job) != machine) {
                    continue;
                }
                // A step of no time does not begin before its own end, but may be chosen.
                boolean isRival = job == first || begins[job] < end;
                if (isRival && measure(rule, job) < least) {
                    chosen = job;
                    least = measure(rule, job);
                }
            }
            return chosen;
        }

        /** What the rule wants least of. */
        private int measure(int rule, int job) {
            switch (rule) {
                case 0:
                    return shop.times[nextOf(job)];
                case 1:
                    return shop.dues[job];
                case 2:
                    return -shop.timeOf(job, filledOfJob[job], shop.counts[job]);
                default:
                    return begins[job];
            }
        }

        private void append(int job) {
            int machine = machineOfNext(job);
            int end = wouldEnd(job);
            shop.insert(nextOf(job), shop.sizes[machine]);
            endOfJob[job] = end;
            endOfMachine[machine] = end;
            filledOfJob[job]++;
        }
    }

    /** The least that a machine alone, or a job alone, allows. */
    private static final class Bounds {
        private static final int MOST = 8;
        private static final int UNKNOWN = -1;
        /** A span of numbers this many times halved has come to one number. */
        private static final int MOST_HALVINGS = 32;

        private final Shop shop;
        private final int[] known = new int[MOST_MACHINES];
        private int count = 0;
        private final int[] heads = new int[MOST];
        private final int[] times = new int[MOST];
        private final int[] tails = new int[MOST];
        /** When a set of the steps (bits) can have ended at the soonest, all within the limit. */
        private final int[] soonest = new int[1 << MOST];

        Bounds(Shop shop) {
            this.shop = shop;
            Arrays.fill(known, UNKNOWN);
        }

        void forget() {
            Arrays.fill(known, UNKNOWN);
        }

        int greatest() {
            int most = 0;
            for (int machine = 0; machine < shop.machines; machine++) {
                if (hasOne(machine)) {
                    most = Math.max(most, ofMachine(machine));
                }
            }
            for (int job = 0; job < shop.jobs; job++) {
                if (shop.counts[job] > 0) {
                    most = Math.max(most, shop.releases[job] + shop.timeOf(job, 0, shop.counts[job]));
                }
            }
            return most;
        }

        boolean hasOne(int machine) {
            int found = 0;
            for (int job = 0; job < shop.jobs; job++) {
                for (int place = 0; place < shop.counts[job]; place++) {
                    if (shop.machineOf[JOB_FACTOR * job + place] == machine) {
                        found++;
                    }
                }
            }
            return found <= MOST;
        }

        int ofMachine(int machine) {
            if (known[machine] == UNKNOWN) {
                collect(machine);
                known[machine] = leastLimit();
            }
            return known[machine];
        }

        private void collect(int machine) {
            count = 0;
            for (int job = 0; job < shop.jobs; job++) {
                for (int place = 0; place < shop.counts[job]; place++) {
                    int step = JOB_FACTOR * job + place;
                    if (shop.machineOf[step] == machine && count < MOST) {
                        heads[count] = shop.headOf(step);
                        times[count] = shop.times[step];
                        tails[count] = shop.tailOf(step);
                        count++;
                    }
                }
            }
        }

        private int leastLimit() {
            int low = 0;
            int high = 0;
            int end = 0;
            for (int k = 0; k < count; k++) {
                low = Math.max(low, heads[k] + times[k] + tails[k]);
                end = Math.max(end, heads[k]) + times[k];
                high = Math.max(high, end + tails[k]);
            }
            for (int round = 0; round < MOST_HALVINGS && low < high; round++) {
                int middle = low + (high - low) / 2;
                if (fits(middle)) {
                    high = middle;
                } else {
                    low = middle + 1;
                }
            }
            return high;
        }

        /** Of two orders of one set that keep the limit, the one that ends sooner is never the worse start. */
        private boolean fits(int limit) {
            int all = (1 << count) - 1;
            Arrays.fill(soonest, FAR);
            soonest[0] = 0;
            for (int set = 0; set < all; set++) {
                if (soonest[set] == FAR) {
                    continue;
                }
                for (int k = 0; k < count; k++) {
                    int more = set | 1 << k;
                    int end = Math.max(soonest[set], heads[k]) + times[k];
                    if (more != set && end + tails[k] <= limit && end < soonest[more]) {
                        soonest[more] = end;
                    }
                }
            }
            return soonest[all] != FAR;
        }
    }
}
