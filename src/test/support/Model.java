import java.util.ArrayList;
import java.util.HashMap;
import java.util.List;
import java.util.Map;

/** The document's words, by trying all there is to try. */
public final class Model implements Face {
    final int machines;
    final List<int[]> jobs = new ArrayList<>();
    final List<List<int[]>> steps = new ArrayList<>();
    final Map<String, Integer> changes = new HashMap<>();
    final List<List<Integer>> orders = new ArrayList<>();

    Model(int told) {
        machines = told < 1 ? 1 : told > 5 ? 5 : told;
        for (int m = 0; m < machines; m++) {
            orders.add(new ArrayList<>());
        }
    }

    static boolean outside(int value, int most) {
        return value < 0 || value > most;
    }

    boolean noMachine(int m) {
        return outside(m, machines - 1);
    }

    boolean noJob(int j) {
        return outside(j, jobs.size() - 1);
    }

    List<Integer> all() {
        List<Integer> all = new ArrayList<>();
        for (int j = 0; j < jobs.size(); j++) {
            for (int k = 0; k < steps.get(j).size(); k++) {
                all.add(10 * j + k);
            }
        }
        return all;
    }

    boolean noStep(int s) {
        return !all().contains(s);
    }

    int machineOf(int s) {
        return steps.get(s / 10).get(s % 10)[0];
    }

    int timeOf(int s) {
        return steps.get(s / 10).get(s % 10)[1];
    }

    List<Integer> orderOf(int s) {
        return orders.get(machineOf(s));
    }

    int changeOf(int m, int a, int b) {
        return changes.getOrDefault(m + "/" + a + "/" + b, 0);
    }

    @Override
    public int job(int release, int due, int weight) {
        if (outside(release, 1000) || outside(due, 1000) || outside(weight, 20)) {
            return -2;
        }
        if (jobs.size() == 8) {
            return -4;
        }
        jobs.add(new int[] {release, due, weight});
        steps.add(new ArrayList<>());
        return jobs.size() - 1;
    }

    @Override
    public int step(int j, int m, int time) {
        if (noJob(j)) {
            return -1;
        }
        if (noMachine(m) || outside(time, 50)) {
            return -2;
        }
        if (steps.get(j).size() == 6) {
            return -4;
        }
        steps.get(j).add(new int[] {m, time});
        return steps.get(j).size();
    }

    @Override
    public int change(int m, int a, int b, int t) {
        if (noMachine(m) || noJob(a) || noJob(b) || a == b) {
            return -1;
        }
        if (outside(t, 50)) {
            return -2;
        }
        int was = changeOf(m, a, b);
        changes.put(m + "/" + a + "/" + b, t);
        return was;
    }

    @Override
    public int put(int s, int place) {
        if (noStep(s)) {
            return -1;
        }
        if (outside(place, orderOf(s).size())) {
            return -2;
        }
        if (orderOf(s).contains(s)) {
            return -3;
        }
        orderOf(s).add(place, s);
        return orderOf(s).size();
    }

    @Override
    public int take(int s) {
        if (noStep(s)) {
            return -1;
        }
        int place = orderOf(s).indexOf(s);
        if (place < 0) {
            return -3;
        }
        orderOf(s).remove(place);
        return place;
    }

    boolean noPair(int m, int place) {
        return noMachine(m) || outside(place, orders.get(m).size() - 2);
    }

    @Override
    public int swap(int m, int place) {
        if (noPair(m, place)) {
            return -1;
        }
        List<Integer> order = orders.get(m);
        order.add(place, order.remove(place + 1));
        return 1;
    }

    @Override
    public int at(int m, int place) {
        if (noMachine(m)) {
            return -1;
        }
        if (place == -1) {
            return orders.get(m).size();
        }
        return outside(place, orders.get(m).size() - 1) ? -1 : orders.get(m).get(place);
    }

    /** The steps that a step waits for: in its job, in its order. */
    List<Integer> waitsFor(int s) {
        List<Integer> before = new ArrayList<>();
        if (s % 10 > 0) {
            before.add(s - 1);
        }
        int place = orderOf(s).indexOf(s);
        if (place > 0) {
            before.add(orderOf(s).get(place - 1));
        }
        return before;
    }

    @Override
    public int state() {
        List<Integer> left = all();
        for (int s : left) {
            if (!orderOf(s).contains(s)) {
                return 1;
            }
        }
        boolean moved = true;
        while (moved) {
            moved = false;
            for (int k = left.size() - 1; k >= 0; k--) {
                boolean free = true;
                for (int before : waitsFor(left.get(k))) {
                    free &= !left.contains(before);
                }
                if (free) {
                    left.remove(k);
                    moved = true;
                }
            }
        }
        return left.isEmpty() ? 0 : 2;
    }

    /** When a step begins if the step held does not begin before the time told. */
    int begin(int s, int held, int until, Map<Integer, Integer> known) {
        if (known.containsKey(s)) {
            return known.get(s);
        }
        int begin = s == held ? until : 0;
        if (s % 10 == 0) {
            begin = Math.max(begin, jobs.get(s / 10)[0]);
        }
        for (int before : waitsFor(s)) {
            int end = begin(before, held, until, known) + timeOf(before);
            boolean inJob = before == s - 1 && s % 10 > 0;
            boolean inOrder = orderOf(s).indexOf(before) >= 0
                && orderOf(s).indexOf(before) == orderOf(s).indexOf(s) - 1;
            int change = inOrder ? changeOf(machineOf(s), before / 10, s / 10) : 0;
            begin = Math.max(begin, inJob || inOrder ? end + change : 0);
        }
        known.put(s, begin);
        return begin;
    }

    int begin(int s) {
        return begin(s, -1, 0, new HashMap<>());
    }

    int spanHeld(int held, int until) {
        Map<Integer, Integer> known = new HashMap<>();
        int most = 0;
        for (int s : all()) {
            most = Math.max(most, begin(s, held, until, known) + timeOf(s));
        }
        return most;
    }

    int slack(int s) {
        int now = spanHeld(-1, 0);
        int begin = begin(s);
        int later = 0;
        while (spanHeld(s, begin + later + 1) <= now) {
            later++;
        }
        return later;
    }

    @Override
    public int when(int s, int what) {
        if (noStep(s)) {
            return -1;
        }
        if (outside(what, 2)) {
            return -2;
        }
        if (state() != 0) {
            return -3;
        }
        return what == 2 ? slack(s) : begin(s) + what * timeOf(s);
    }

    @Override
    public int span() {
        return state() == 0 ? spanHeld(-1, 0) : -3;
    }

    @Override
    public long late() {
        if (state() != 0) {
            return Long.MIN_VALUE;
        }
        long cost = 0;
        for (int j = 0; j < jobs.size(); j++) {
            int end = jobs.get(j)[0];
            int count = steps.get(j).size();
            if (count > 0) {
                end = begin(10 * j + count - 1) + timeOf(10 * j + count - 1);
            }
            cost += end > jobs.get(j)[1] ? (long) jobs.get(j)[2] * (end - jobs.get(j)[1]) : 0;
        }
        return cost;
    }

    @Override
    public int swapped(int m, int place) {
        if (noPair(m, place)) {
            return -1;
        }
        if (state() != 0) {
            return -3;
        }
        swap(m, place);
        int span = span();
        swap(m, place);
        return span;
    }

    @Override
    public int better() {
        if (state() != 0) {
            return -3;
        }
        int best = -3;
        int least = span();
        for (int m = 0; m < machines; m++) {
            for (int place = 0; place < orders.get(m).size() - 1; place++) {
                int then = swapped(m, place);
                boolean less = then >= 0 && then < least;
                if (less && slack(orders.get(m).get(place)) == 0 && slack(orders.get(m).get(place + 1)) == 0) {
                    least = then;
                    best = 100 * m + place;
                }
            }
        }
        return best;
    }

    int head(int s) {
        int sum = jobs.get(s / 10)[0];
        for (int before = s / 10 * 10; before < s; before++) {
            sum += timeOf(before);
        }
        return sum;
    }

    int tail(int s) {
        int sum = 0;
        for (int behind = s + 1; behind % 10 < steps.get(s / 10).size(); behind++) {
            sum += timeOf(behind);
        }
        return sum;
    }

    @Override
    public int part(int s, int what) {
        if (noStep(s)) {
            return -1;
        }
        return outside(what, 1) ? -2 : what == 0 ? head(s) : tail(s);
    }

    int leastOfAllOrders(List<Integer> left, int end, int most) {
        if (left.isEmpty()) {
            return most;
        }
        int least = Integer.MAX_VALUE;
        for (int k = 0; k < left.size(); k++) {
            int s = left.remove(k);
            int then = Math.max(end, head(s)) + timeOf(s);
            least = Math.min(least, leastOfAllOrders(left, then, Math.max(most, then + tail(s))));
            left.add(k, s);
        }
        return least;
    }

    @Override
    public int bound(int m) {
        if (noMachine(m)) {
            return -1;
        }
        List<Integer> own = new ArrayList<>();
        for (int s : all()) {
            if (machineOf(s) == m) {
                own.add(s);
            }
        }
        return own.size() > 8 ? -3 : leastOfAllOrders(own, 0, 0);
    }

    @Override
    public int low() {
        int most = 0;
        for (int m = 0; m < machines; m++) {
            most = Math.max(most, bound(m));
        }
        for (int s : all()) {
            most = Math.max(most, head(s) + timeOf(s) + tail(s));
        }
        return most;
    }

    @Override
    public long share() {
        if (state() != 0) {
            return Long.MIN_VALUE;
        }
        int low = low();
        if (low == 0) {
            throw new ArithmeticException("LOW is 0");
        }
        return 1000L * span() / low;
    }

    int nextOf(int j) {
        for (int k = 0; k < steps.get(j).size(); k++) {
            if (!orderOf(10 * j + k).contains(10 * j + k)) {
                return 10 * j + k;
            }
        }
        return -1;
    }

    int wouldBegin(int s) {
        orderOf(s).add(s);
        int begin = begin(s);
        orderOf(s).remove(orderOf(s).size() - 1);
        return begin;
    }

    int measure(int rule, int s) {
        int[] measures = {timeOf(s), jobs.get(s / 10)[1], -timeOf(s) - tail(s), wouldBegin(s)};
        return measures[rule];
    }

    @Override
    public int fill(int rule) {
        if (outside(rule, 3)) {
            return -2;
        }
        for (List<Integer> order : orders) {
            order.clear();
        }
        for (int round = 0; round < all().size(); round++) {
            int first = -1;
            for (int j = 0; j < jobs.size(); j++) {
                int s = nextOf(j);
                if (s >= 0 && (first < 0 || wouldBegin(s) + timeOf(s) < wouldBegin(first) + timeOf(first))) {
                    first = s;
                }
            }
            int chosen = -1;
            for (int j = 0; j < jobs.size(); j++) {
                int s = nextOf(j);
                if (s < 0 || machineOf(s) != machineOf(first)) {
                    continue;
                }
                boolean counts = s == first || wouldBegin(s) < wouldBegin(first) + timeOf(first);
                if (counts && (chosen < 0 || measure(rule, s) < measure(rule, chosen))) {
                    chosen = s;
                }
            }
            orderOf(chosen).add(chosen);
        }
        return all().size();
    }
}
