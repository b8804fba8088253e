/** Each promise by hand: ordinary inputs, the edges that the document names, and wrong inputs. */
public final class PromiseTest {
    private static final int MIN = Integer.MIN_VALUE;
    private static final int MAX = Integer.MAX_VALUE;
    private static int wrong = 0;

    private static void due(String call, long got, long want) {
        if (got != want) {
            wrong++;
            System.out.println(call + " answered " + got + ", due is " + want);
        }
    }

    private static void dueRow(String call, ShopRules x, int machine, int... row) {
        due(call + ": how many", x.at(machine, -1), row.length);
        for (int place = 0; place < row.length; place++) {
            due(call + ": at place " + place, x.at(machine, place), row[place]);
        }
    }

    private static boolean shareThrows(ShopRules x) {
        try {
            x.share();
            return false;
        } catch (ArithmeticException e) {
            // The machine's own division must not be what throws.
            return !"/ by zero".equals(e.getMessage());
        }
    }

    /** Two machines; 0: 0-3, 10: 5-7 on machine 0; 20: 1-5, 1: 6-8 on machine 1. */
    private static ShopRules small() {
        ShopRules x = new ShopRules(2);
        x.job(0, 5, 3);
        x.job(0, 7, 4);
        x.job(1, 4, 2);
        x.step(0, 0, 3);
        x.step(0, 1, 2);
        x.step(1, 0, 2);
        x.step(2, 1, 4);
        x.change(0, 0, 1, 2);
        x.change(1, 2, 0, 1);
        x.put(0, 0);
        x.put(10, 1);
        x.put(20, 0);
        x.put(1, 1);
        return x;
    }

    /** Machine 0 first works for job 0 and then for job 1, whose long second step waits. */
    private static ShopRules improvable(int machines, int machine, int other) {
        ShopRules x = new ShopRules(machines);
        x.job(0, 0, 1);
        x.job(0, 0, 1);
        x.step(0, machine, 1);
        x.step(1, machine, 1);
        x.step(1, other, 10);
        x.put(0, 0);
        x.put(10, 1);
        x.put(11, 0);
        return x;
    }

    private static void dueMachines(int told, int machines) {
        ShopRules x = new ShopRules(told);
        due("new " + told + ": its last machine", x.at(machines - 1, -1), 0);
        due("new " + told + ": one behind it", x.at(machines, -1), -1);
    }

    private static void newObject() {
        dueMachines(1, 1);
        dueMachines(3, 3);
        dueMachines(5, 5);
        dueMachines(0, 1);
        dueMachines(-7, 1);
        dueMachines(MIN, 1);
        dueMachines(6, 5);
        dueMachines(MAX, 5);
        ShopRules x = new ShopRules(2);
        due("new state", x.state(), 0);
        due("new span", x.span(), 0);
        due("new late", x.late(), 0);
        due("new better", x.better(), -3);
        due("new bound", x.bound(1), 0);
        due("new low", x.low(), 0);
        due("new fill", x.fill(0), 0);
        due("new share throws", shareThrows(x) ? 1 : 0, 1);
        due("new step", x.step(0, 0, 0), -1);
        due("new put", x.put(0, 0), -1);
    }

    private static void job() {
        ShopRules x = new ShopRules(1);
        int[][] refused = {{-1, 0, 0}, {1001, 0, 0}, {0, -1, 0}, {0, 1001, 0}, {0, 0, -1}, {0, 0, 21},
            {MIN, 0, 0}, {0, MAX, 0}};
        for (int[] r : refused) {
            due("job outside", x.job(r[0], r[1], r[2]), -2);
        }
        due("job least", x.job(0, 0, 0), 0);
        due("job most", x.job(1000, 1000, 20), 1);
        due("late of release", x.late(), 0);
        for (int n = 2; n < 8; n++) {
            due("job", x.job(n, 0, 1), n);
        }
        due("job no room", x.job(0, 0, 0), -4);
        due("job outside, no room", x.job(0, 0, 21), -2);
        due("late", x.late(), 2 + 3 + 4 + 5 + 6 + 7);
    }

    private static void step() {
        ShopRules x = new ShopRules(2);
        x.job(3, 0, 0);
        due("step no job", x.step(1, 9, 99), -1);
        due("step job -1", x.step(-1, 0, 0), -1);
        due("step machine -1", x.step(0, -1, 0), -2);
        due("step machine 2", x.step(0, 2, 0), -2);
        due("step time -1", x.step(0, 0, -1), -2);
        due("step time 51", x.step(0, 0, 51), -2);
        due("state", x.state(), 0);
        due("step", x.step(0, 1, 50), 1);
        due("state with an open step", x.state(), 1);
        due("put", x.put(0, 0), 1);
        due("span", x.span(), 53);
        for (int n = 2; n <= 6; n++) {
            due("step", x.step(0, 0, 0), n);
        }
        due("a new step is open", x.take(5), -3);
        due("step no room", x.step(0, 0, 0), -4);
        due("step outside, no room", x.step(0, 2, 0), -2);
        due("step 6 is none", x.part(6, 0), -1);
        due("order as before", x.at(1, 0), 0);
    }

    private static void change() {
        ShopRules x = new ShopRules(2);
        x.job(0, 0, 0);
        x.job(0, 0, 0);
        due("change at first", x.change(1, 0, 1, 50), 0);
        due("change no machine", x.change(2, 0, 1, 99), -1);
        due("change machine -1", x.change(-1, 0, 1, 1), -1);
        due("change no a", x.change(1, 2, 1, 1), -1);
        due("change no b", x.change(1, 0, 2, 1), -1);
        due("change a -1", x.change(1, -1, 1, 1), -1);
        due("change b -1", x.change(1, 0, -1, 1), -1);
        due("change to the same", x.change(1, 1, 1, 51), -1);
        due("change -1", x.change(1, 0, 1, -1), -2);
        due("change 51", x.change(1, 0, 1, 51), -2);
        due("change the other way", x.change(1, 1, 0, 7), 0);
        due("change of another machine", x.change(0, 0, 1, 9), 0);
        due("change was", x.change(1, 0, 1, 0), 50);
        due("change was", x.change(1, 0, 1, 3), 0);
        due("change was", x.change(1, 1, 0, 8), 7);
        due("change was", x.change(0, 0, 1, 9), 9);
    }

    private static void put() {
        ShopRules x = new ShopRules(2);
        x.job(0, 0, 0);
        x.job(0, 0, 0);
        x.step(0, 1, 1);
        x.step(0, 1, 2);
        x.step(1, 1, 3);
        x.step(1, 0, 4);
        int[] none = {-1, -10, 2, 8, 9, 12, 20, 79, 80, 90, MIN, MAX};
        for (int step : none) {
            due("put no step " + step, x.put(step, 99), -1);
        }
        due("put place 1 of none", x.put(0, 1), -2);
        due("put place -1", x.put(0, -1), -2);
        due("put", x.put(0, 0), 1);
        due("put behind", x.put(1, 1), 2);
        due("put between", x.put(10, 1), 3);
        due("put on its own machine", x.put(11, 0), 1);
        due("put not open", x.put(0, 3), -3);
        due("put not open, outside", x.put(0, 4), -2);
        dueRow("put", x, 1, 0, 10, 1);
        dueRow("put", x, 0, 11);
        due("take", x.take(1), 2);
        due("put first", x.put(1, 0), 3);
        dueRow("put first", x, 1, 1, 0, 10);
    }

    private static void take() {
        ShopRules x = small();
        due("take no step", x.take(2), -1);
        due("take no step", x.take(-1), -1);
        due("take", x.take(10), 1);
        due("take again", x.take(10), -3);
        dueRow("take", x, 0, 0);
        due("state", x.state(), 1);
        due("take", x.take(20), 0);
        dueRow("take", x, 1, 1);
        due("take the last", x.take(1), 0);
        dueRow("take", x, 1);
        due("put again", x.put(1, 0), 1);
        dueRow("put again", x, 1, 1);
    }

    private static void swap() {
        ShopRules x = small();
        due("swap no machine", x.swap(2, 0), -1);
        due("swap machine -1", x.swap(-1, 0), -1);
        due("swap place -1", x.swap(0, -1), -1);
        due("swap last place", x.swap(0, 1), -1);
        due("swap place MAX", x.swap(0, MAX), -1);
        due("swap place MIN", x.swap(0, MIN), -1);
        dueRow("no swap", x, 0, 0, 10);
        due("swap", x.swap(0, 0), 1);
        dueRow("swap", x, 0, 10, 0);
        dueRow("swap", x, 1, 20, 1);
        due("swap empty", new ShopRules(1).swap(0, 0), -1);
    }

    private static void at() {
        ShopRules x = small();
        due("at how many", x.at(1, -1), 2);
        due("at", x.at(1, 1), 1);
        due("at place 2", x.at(1, 2), -1);
        due("at place -2", x.at(1, -2), -1);
        due("at place MAX", x.at(1, MAX), -1);
        due("at place MIN", x.at(1, MIN), -1);
        due("at machine 2", x.at(2, -1), -1);
        due("at machine -1", x.at(-1, 0), -1);
    }

    private static ShopRules unfilled() {
        ShopRules x = new ShopRules(2);
        x.job(0, 30, 0);
        x.job(0, 10, 0);
        x.job(0, 20, 0);
        x.step(0, 0, 4);
        x.step(1, 0, 6);
        x.step(2, 0, 2);
        x.step(2, 1, 9);
        return x;
    }

    private static ShopRules pair(int release0, int due0, int time0, int release1, int due1, int time1) {
        ShopRules x = new ShopRules(1);
        x.job(release0, due0, 0);
        x.job(release1, due1, 0);
        x.step(0, 0, time0);
        x.step(1, 0, time1);
        return x;
    }

    private static void dueFilled(String call, ShopRules x, int rule, int... row) {
        due(call, x.fill(rule), x.at(1, -1) < 0 ? 2 : 4);
        dueRow(call, x, 0, row);
    }

    private static void fill() {
        ShopRules x = unfilled();
        due("fill -1", x.fill(-1), -2);
        due("fill 4", x.fill(4), -2);
        due("no fill", x.at(0, -1), 0);
        dueFilled("fill 0", x, 0, 20, 0, 10);
        dueFilled("fill 1", x, 1, 10, 20, 0);
        dueFilled("fill 2", x, 2, 20, 10, 0);
        dueFilled("fill 3", x, 3, 0, 10, 20);
        dueRow("fill 3", x, 1, 21);
        due("no fill", x.fill(MAX), -2);
        due("as before", x.state(), 0);
        dueFilled("begins at that end", pair(0, 9, 3, 3, 0, 1), 1, 0, 10);
        dueFilled("begins before that end", pair(0, 9, 3, 2, 0, 5), 1, 10, 0);
        dueFilled("itself, of no time", pair(5, 0, 0, 4, 0, 1), 0, 0, 10);
        dueFilled("not itself", pair(5, 0, 0, 4, 0, 1), 3, 10, 0);
        dueFilled("like ones by 0", pair(0, 0, 4, 0, 0, 4), 0, 0, 10);
        dueFilled("like ones by 1", pair(1, 7, 4, 0, 7, 4), 1, 0, 10);
        dueFilled("like ones by 2", pair(1, 7, 4, 0, 7, 4), 2, 0, 10);
        dueFilled("like ones by 3", pair(2, 7, 4, 2, 7, 3), 3, 0, 10);
        fillWithChange();
    }

    /** Job 2 would be the shortest one behind job 0, were it not for the change. */
    private static void fillWithChange() {
        ShopRules x = new ShopRules(1);
        for (int n = 0; n < 3; n++) {
            x.job(0, 0, 0);
        }
        x.step(0, 0, 1);
        x.step(1, 0, 5);
        x.step(2, 0, 2);
        due("fill", x.fill(0), 3);
        dueRow("fill without change", x, 0, 0, 20, 10);
        x.change(0, 0, 2, 50);
        due("fill", x.fill(0), 3);
        dueRow("fill with change", x, 0, 0, 10, 20);
        due("span", x.span(), 8);
    }

    private static void state() {
        ShopRules x = new ShopRules(2);
        x.job(0, 0, 0);
        due("state without steps", x.state(), 0);
        x.step(0, 0, 0);
        x.step(0, 0, 0);
        x.put(1, 0);
        due("state open", x.state(), 1);
        x.put(0, 1);
        due("state ring of no time", x.state(), 2);
        x.step(0, 0, 0);
        due("state open before ring", x.state(), 1);
        x.put(2, 2);
        x.swap(0, 0);
        due("state plan", x.state(), 0);
        ShopRules y = new ShopRules(2);
        y.job(0, 0, 0);
        y.job(0, 0, 0);
        y.step(0, 0, 1);
        y.step(0, 1, 1);
        y.step(1, 1, 1);
        y.step(1, 0, 1);
        y.fill(0);
        due("state plan", y.state(), 0);
        y.swap(0, 0);
        due("state plan", y.state(), 0);
        y.swap(1, 0);
        due("state", y.state(), 2);
        due("span in a ring", y.span(), -3);
        due("late in a ring", y.late(), ShopRules.NOTHING);
        due("share in a ring", y.share(), ShopRules.NOTHING);
        due("when in a ring", y.when(0, 2), -3);
        due("swapped in a ring", y.swapped(0, 0), -3);
        due("better in a ring", y.better(), -3);
        due("low in a ring", y.low(), 2);
    }

    private static void when() {
        ShopRules x = small();
        int[][] rows = {{0, 0, 3, 1}, {10, 5, 7, 1}, {20, 1, 5, 0}, {1, 6, 8, 0}};
        for (int[] row : rows) {
            due("begin of " + row[0], x.when(row[0], 0), row[1]);
            due("end of " + row[0], x.when(row[0], 1), row[2]);
            due("slack of " + row[0], x.when(row[0], 2), row[3]);
        }
        due("when no step", x.when(2, 9), -1);
        due("when -1", x.when(0, -1), -2);
        due("when 3", x.when(0, 3), -2);
        x.take(0);
        due("when 3 without plan", x.when(0, 3), -2);
        due("when without plan", x.when(20, 0), -3);
        due("when no step without plan", x.when(-1, 0), -1);
    }

    private static void span() {
        ShopRules x = small();
        due("span", x.span(), 8);
        x.change(1, 2, 0, 4);
        due("span after a change", x.span(), 11);
        x.take(10);
        due("span without plan", x.span(), -3);
        x.put(10, 0);
        due("span again", x.span(), 11);
        x.job(900, 0, 0);
        due("a job without steps has no end", x.span(), 11);
    }

    private static void late() {
        ShopRules x = small();
        due("late", x.late(), 9 + 2);
        x.job(30, 10, 20);
        due("late by release", x.late(), 9 + 2 + 400);
        x.job(3, 500, 20);
        due("ahead of due costs nothing", x.late(), 9 + 2 + 400);
        x.step(3, 0, 0);
        due("late without plan", x.late(), ShopRules.NOTHING);
    }

    private static void swapped() {
        ShopRules x = small();
        due("swapped", x.swapped(0, 0), 8);
        due("swapped", x.swapped(1, 0), 9);
        dueRow("order as before", x, 1, 20, 1);
        due("span as before", x.span(), 8);
        due("swapped no machine", x.swapped(2, 0), -1);
        due("swapped no place", x.swapped(0, 1), -1);
        due("swapped place -1", x.swapped(0, -1), -1);
        due("swapped place MAX", x.swapped(0, MAX), -1);
        x.step(2, 1, 5);
        due("swapped no place without plan", x.swapped(0, 1), -1);
        due("swapped without plan", x.swapped(0, 0), -3);
        x.put(21, 1);
        due("swapped to a ring", x.swapped(1, 0), -3);
        dueRow("order as before", x, 1, 20, 21, 1);
        x.swap(1, 0);
        due("swapped out of a ring", x.swapped(1, 0), -3);
    }

    private static void better() {
        due("better none", small().better(), -3);
        ShopRules x = improvable(2, 0, 1);
        due("span", x.span(), 12);
        due("better", x.better(), 0);
        due("span as before", x.span(), 12);
        x.swap(0, 0);
        due("span", x.span(), 11);
        due("better none", x.better(), -3);
        due("better of machine 4", improvable(5, 4, 2).better(), 400);
        ShopRules open = improvable(2, 0, 1);
        open.take(0);
        due("better without plan", open.better(), -3);
        betterOfSeveral();
        betterOfCriticalAlone();
    }

    /** Three steps in a row on machine 0, the last with 20 behind it. */
    private static ShopRules three(int... times) {
        ShopRules x = new ShopRules(2);
        for (int n = 0; n < 3; n++) {
            x.job(0, 0, 0);
            x.step(n, 0, times[n]);
            x.put(10 * n, n);
        }
        x.step(2, 1, 20);
        x.put(21, 0);
        return x;
    }

    private static void betterOfSeveral() {
        ShopRules x = three(3, 1, 2);
        due("span", x.span(), 26);
        due("swapped place 0", x.swapped(0, 0), 26);
        due("better place 1", x.better(), 1);
        x.change(0, 0, 1, 9);
        due("span", x.span(), 35);
        due("swapped place 0", x.swapped(0, 0), 26);
        due("swapped place 1", x.swapped(0, 1), 25);
        due("better is the least", x.better(), 1);
        ShopRules y = three(3, 0, 2);
        y.change(0, 0, 1, 9);
        due("span", y.span(), 34);
        due("swapped place 0", y.swapped(0, 0), 25);
        due("swapped place 1", y.swapped(0, 1), 25);
        due("better of like ones", y.better(), 0);
    }

    /** The long change from job 0 to 1 falls out when step 20 comes between, but 20 has slack. */
    private static void betterOfCriticalAlone() {
        ShopRules x = new ShopRules(3);
        for (int n = 0; n < 3; n++) {
            x.job(0, 0, 0);
            x.step(n, 0, 1);
            x.put(10 * n, n);
        }
        x.step(0, 2, 50);
        x.step(1, 1, 20);
        x.put(1, 0);
        x.put(11, 0);
        x.change(0, 0, 1, 50);
        x.change(0, 1, 0, 50);
        due("span", x.span(), 72);
        due("slack", x.when(20, 2), 19);
        due("swapped place 0", x.swapped(0, 0), 102);
        due("swapped place 1", x.swapped(0, 1), 51);
        due("better passes over a second one with slack", x.better(), -3);
        betterOfFirstWithSlack();
    }

    /** The long change from job 1 to 2 falls out when step 0, which has slack, comes between. */
    private static void betterOfFirstWithSlack() {
        ShopRules x = new ShopRules(2);
        x.job(0, 0, 0);
        x.job(5, 0, 0);
        x.job(20, 0, 0);
        for (int n = 0; n < 3; n++) {
            x.step(n, 0, 1);
            x.put(10 * n, n);
        }
        x.step(2, 1, 20);
        x.put(21, 0);
        x.change(0, 1, 2, 50);
        x.change(0, 2, 1, 50);
        due("span", x.span(), 77);
        due("slack", x.when(0, 2), 4);
        due("swapped place 0", x.swapped(0, 0), 41);
        due("swapped place 1", x.swapped(0, 1), 72);
        due("better passes over a first one with slack", x.better(), 1);
    }

    /** The machines wait for one another again and again, against the order of their numbers. */
    private static void longChain() {
        ShopRules x = new ShopRules(5);
        for (int n = 0; n < 8; n++) {
            x.job(0, 0, 0);
            for (int k = 0; k < 6; k++) {
                x.step(n, (9 - k) % 5, 1);
                x.put(10 * n + k, x.at((9 - k) % 5, -1));
            }
        }
        due("span of 48 steps in one row", x.span(), 48);
        due("fill of 48 steps", x.fill(2), 48);
        due("state of 48 steps", x.state(), 0);
        ShopRules y = new ShopRules(2);
        for (int n = 0; n < 8; n++) {
            y.job(0, 0, 0);
            for (int k = 0; k < 6; k++) {
                y.step(n, 1 - k % 2, 1);
                y.put(10 * n + k, y.at(1 - k % 2, -1));
            }
        }
        due("span of one behind the other", y.span(), 6 + 7 * 5);
    }

    private static void part() {
        ShopRules x = new ShopRules(2);
        x.job(7, 0, 0);
        x.step(0, 0, 3);
        x.step(0, 1, 5);
        x.step(0, 0, 11);
        int[][] rows = {{0, 7, 16}, {1, 10, 11}, {2, 15, 0}};
        for (int[] row : rows) {
            due("head", x.part(row[0], 0), row[1]);
            due("tail", x.part(row[0], 1), row[2]);
        }
        due("part no step", x.part(3, 9), -1);
        due("part step -1", x.part(-1, 0), -1);
        due("part -1", x.part(0, -1), -2);
        due("part 2", x.part(0, 2), -2);
    }

    private static void bound() {
        ShopRules x = new ShopRules(3);
        x.job(0, 0, 0);
        x.job(1, 0, 0);
        x.step(0, 0, 10);
        due("bound of one", x.bound(0), 10);
        x.step(1, 0, 1);
        due("bound of two", x.bound(0), 11);
        x.step(1, 1, 20);
        due("bound by waiting", x.bound(0), 22);
        due("bound of another machine", x.bound(1), 22);
        due("bound without steps", x.bound(2), 0);
        due("bound no machine", x.bound(3), -1);
        due("bound machine -1", x.bound(-1), -1);
        x.change(0, 0, 1, 50);
        x.change(0, 1, 0, 50);
        due("bound without change", x.bound(0), 22);
    }

    /** Six steps of 10 of job 0 and then some of job 1, all on machine 0. */
    private static void boundAndLowOfMany() {
        ShopRules x = new ShopRules(2);
        x.job(0, 0, 0);
        x.job(0, 0, 0);
        for (int n = 0; n < 6; n++) {
            x.step(0, 0, 10);
        }
        x.step(1, 0, 10);
        x.step(1, 0, 10);
        due("bound of 8", x.bound(0), 80);
        due("low with bound", x.low(), 80);
        x.step(1, 0, 10);
        due("bound of 9", x.bound(0), -3);
        due("low without bound", x.low(), 60);
    }

    private static void low() {
        ShopRules x = new ShopRules(2);
        x.job(1000, 0, 0);
        due("low of a job without steps", x.low(), 0);
        x.job(5, 0, 0);
        x.step(1, 0, 8);
        x.step(1, 1, 9);
        due("low of a job", x.low(), 22);
        x.job(4, 0, 0);
        x.step(2, 1, 20);
        due("low of a machine", x.low(), 33);
        x.step(0, 0, 0);
        due("low of a release", x.low(), 1000);
    }

    private static void share() {
        ShopRules x = small();
        due("low", x.low(), 7);
        due("share", x.share(), 1142);
        x.take(0);
        due("share without plan", x.share(), ShopRules.NOTHING);
        ShopRules y = new ShopRules(1);
        y.job(0, 0, 0);
        y.job(0, 0, 0);
        y.step(0, 0, 0);
        y.step(1, 0, 0);
        due("share without plan is first", y.share(), ShopRules.NOTHING);
        y.fill(0);
        y.change(0, 0, 1, 5);
        due("span by change alone", y.span(), 5);
        due("share throws", shareThrows(y) ? 1 : 0, 1);
        due("state as before", y.state(), 0);
    }

    public static void main(String[] args) {
        newObject();
        job();
        step();
        change();
        put();
        take();
        swap();
        at();
        fill();
        state();
        when();
        span();
        late();
        swapped();
        better();
        longChain();
        part();
        bound();
        boundAndLowOfMany();
        low();
        share();
        System.out.println(wrong == 0 ? "all promises are kept" : wrong + " answers are not as due");
        if (wrong != 0) {
            System.exit(1);
        }
    }
}
