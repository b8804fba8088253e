import java.util.List;

/** The empty shop, the full one, and the last calls that an object is used for. */
public final class ExtremesTest {
    private static final Report REPORT = new Report();

    private static void due(String sentence, Real real, String call, long want) {
        REPORT.due(sentence, call, Words.answer(real, call), "" + want);
    }

    private static void dueRows(String sentence, Real real, String... rows) {
        for (String row : rows) {
            String[] parts = row.split(" = ");
            REPORT.due(sentence, parts[0], Words.answer(real, parts[0]), parts[1]);
        }
    }

    private static void empty() {
        for (int machines = 1; machines <= 5; machines++) {
            int last = machines - 1;
            String[] rows = {"step 0 0 0 = -1", "change 0 0 1 0 = -1", "put 0 0 = -1", "take 0 = -1", "swap 0 0 = -1",
                "at " + last + " -1 = 0", "at " + last + " 0 = -1", "fill 0 = 0", "fill 1 = 0", "fill 2 = 0",
                "fill 3 = 0", "state = 0", "when 0 0 = -1", "span = 0", "late = 0", "swapped 0 0 = -1", "better = -3",
                "part 0 0 = -1", "bound " + last + " = 0", "low = 0", "share = ArithmeticException"};
            dueRows("the empty shop", new Real(machines), rows);
            for (String row : rows) {
                dueRows("the empty shop, first call", new Real(machines), row);
            }
            dueRows("the empty shop, first call", new Real(machines), "job 0 0 0 = 0");
        }
    }

    private static void fullPlan() {
        String sentence = "the full shop of one machine, all at its most";
        Real real = Scenes.fullOfOneMachine().real();
        for (int place = 0; place < 48; place++) {
            int step = 10 * (place % 8) + place / 8;
            due(sentence, real, "at 0 " + place, step);
            due(sentence, real, "when " + step + " 0", 1000 + 100 * place);
            due(sentence, real, "when " + step + " 1", 1050 + 100 * place);
            due(sentence, real, "when " + step + " 2", 0);
        }
        int lastEnds = 8 * 1050 + 100 * (40 + 41 + 42 + 43 + 44 + 45 + 46 + 47);
        dueRows(sentence, real, "at 0 -1 = 48", "at 0 48 = -1", "state = 0", "span = 5750", "late = " + 20 * lastEnds,
            "bound 0 = -3", "low = 1300", "share = 4423", "part 75 0 = 1250", "part 75 1 = 0", "part 70 1 = 250");
    }

    private static void fullSwaps() {
        String sentence = "the full shop of one machine, its swaps";
        Real real = Scenes.fullOfOneMachine().real();
        for (int place = 0; place < 47; place++) {
            // Inside a row three changes fall out, at its ends two.
            due(sentence, real, "swapped 0 " + place, place == 0 || place == 46 ? 5650 : 5600);
        }
        dueRows(sentence, real, "swapped 0 47 = -1", "swapped 0 48 = -1", "better = 1", "swap 0 47 = -1",
            "swap 0 46 = 1", "span = 5650", "at 0 46 = 75", "at 0 47 = 65");
    }

    private static void fullRefusals() {
        String sentence = "the full shop of one machine, what it refuses";
        Real real = Scenes.fullOfOneMachine().real();
        for (int job = 0; job < 8; job++) {
            due(sentence, real, "step " + job + " 0 50", -4);
            for (int place = 6; place <= 9; place++) {
                due(sentence, real, "put " + (10 * job + place) + " 0", -1);
                due(sentence, real, "take " + (10 * job + place), -1);
            }
        }
        dueRows(sentence, real, "job 0 0 0 = -4", "step 8 0 0 = -1", "put 80 0 = -1", "put 75 48 = -3",
            "put 75 49 = -2", "put 0 0 = -3", "change 0 7 8 0 = -1", "change 0 7 0 0 = 50", "change 0 0 7 50 = 0");
    }

    private static void fullOrders() {
        String sentence = "the full shop of one machine, taken out and put in";
        Real real = Scenes.fullOfOneMachine().real();
        dueRows(sentence, real, "take 75 = 47", "state = 1", "put 75 48 = -2", "put 75 47 = 48", "state = 0",
            "span = 5750", "take 0 = 0", "at 0 0 = 10", "at 0 46 = 75", "put 0 48 = -2", "put 0 47 = 48",
            "at 0 47 = 0", "state = 2", "take 0 = 47", "put 0 0 = 48", "at 0 0 = 0", "at 0 47 = 75", "state = 0");
        for (int step = 0; step < 80; step++) {
            if (step % 10 < 6) {
                // All before it have gone, but for those of later jobs.
                due(sentence, real, "take " + step, (step % 10) * (7 - step / 10));
            }
        }
        dueRows(sentence, real, "at 0 -1 = 0", "state = 1", "fill 0 = 48", "state = 0", "at 0 -1 = 48");
    }

    private static void fullFills() {
        for (int rule = 0; rule <= 3; rule++) {
            dueRows("the full shop, filled", Scenes.full().real(), "fill " + rule + " = 48", "state = 0",
                "at 0 -1 = 8", "at 1 -1 = 10", "at 4 -1 = 10", "bound 1 = -3");
            dueRows("the full shop, filled", Scenes.fullOfOneMachine().real(), "fill " + rule + " = 48", "state = 0",
                "at 0 -1 = 48", "at 0 0 = 0");
        }
    }

    /** The one long change stands between the last two of 48 steps. */
    private static void betterAtTheLastPlace() {
        Scene scene = new Scene(1);
        for (int job = 0; job < 8; job++) {
            scene.with("job 0 0 0" + ("; step " + job + " 0 50").repeat(6));
        }
        int[] row = {0, 1, 2, 3, 4, 5, 10, 11, 12, 13, 14, 15, 20, 21, 22, 23, 24, 25, 30, 31, 32, 33, 34, 35, 40, 41,
            42, 43, 44, 45, 70, 71, 72, 73, 74, 60, 61, 62, 63, 64, 50, 51, 52, 53, 54, 55, 65, 75};
        for (int place = 0; place < row.length; place++) {
            scene.with("put " + row[place] + " " + place);
        }
        scene.with("change 0 6 7 50; change 0 6 5 1");
        dueRows("better of 48 steps", scene.real(), "span = 2451", "swapped 0 45 = 2402", "swapped 0 46 = 2401",
            "better = 46");
    }

    /** LOW is 1, SPAN as great as changes alone can make it. */
    private static void greatestShare() {
        Scene scene = new Scene(1);
        for (int job = 0; job < 8; job++) {
            scene.with("job 0 0 0" + ("; step " + job + " 0 0").repeat(5) + "; step " + job + " 0 1");
        }
        for (int job = 0; job < 8; job++) {
            scene.with("change 0 " + job + " " + (job + 1) % 8 + " 50");
        }
        for (int place = 0; place < 48; place++) {
            scene.with("put " + (10 * (place % 8) + place / 8) + " " + place);
        }
        dueRows("share of 48 steps", scene.real(), "span = 2358", "low = 1", "share = 2358000");
    }

    /** Eight steps that are best begun with the latest tails, though all might begin at once. */
    private static void greatestBound() {
        Scene scene = new Scene(2);
        int most = 0;
        for (int job = 0; job < 8; job++) {
            scene.with("job 1000 0 0; step " + job + " 0 50" + ("; step " + job + " 1 " + job).repeat(5));
            most = Math.max(most, 1000 + 50 * (8 - job) + 5 * job);
        }
        dueRows("bound of eight jobs", scene.real(), "bound 0 = " + most, "bound 1 = -3", "low = " + most);
    }

    private static final List<String> EACH = List.of("job 1 2 3", "step 0 1 7", "change 0 0 1 9", "put 10 0", "take 1",
        "swap 1 0", "at 1 1", "fill 2", "state", "when 1 2", "span", "late", "swapped 1 0", "better", "part 1 0",
        "bound 1", "low", "share", "job 1 2 21", "step 0 2 7", "change 0 0 0 9", "put 10 3", "take 2", "swap 1 1",
        "at 1 2", "fill 4", "when 1 3", "swapped 1 1", "part 1 2", "bound 2");
    private static final List<String> FILLERS = List.of("swap 0 0", "state", "swap 0 0", "when 0 2", "job 0 0 21",
        "take 10", "late", "put 10 1", "span", "step 9 0 0", "better", "swapped 1 0", "share", "bound 1", "low",
        "change 0 0 1 2", "fill 9", "part 1 0", "at 0 1", "change 1 1 1 4", "take 30", "put 0 0", "swap 0 1");

    /** Makes calls that leave all as before, whole rounds of them first, until only so many are left. */
    private static void useUp(Real real, int left) {
        while (real.calls() + FILLERS.size() <= Real.MOST_CALLS - left) {
            for (String filler : FILLERS) {
                Words.answer(real, filler);
            }
        }
        while (real.calls() < Real.MOST_CALLS - left) {
            Words.answer(real, "state");
        }
    }

    private static void lastCalls() {
        for (String call : EACH) {
            Real used = Scenes.planned().real();
            useUp(used, 1);
            String want = Words.answer(Scenes.planned().real(), call);
            REPORT.due("the 512th call", call, Words.answer(used, call), want);
        }
        Real used = Scenes.planned().real();
        useUp(used, 8);
        dueRows("the last of 512 calls", used, "change 0 0 1 50 = 2", "span = 55", "take 10 = 1", "state = 1",
            "fill 3 = 4", "job 5 5 5 = 3", "step 3 1 4 = 1", "take 30 = -3");
    }

    /** The same call again and again, to the last one; a call that asks or is refused answers alike each time. */
    private static void sameCallToTheLast() {
        List<String> same = List.of("state", "when 1 2", "when 2 0", "span", "late", "swapped 1 0", "swapped 0 0",
            "better", "part 1 1", "bound 0", "bound 1", "low", "share", "at 0 -1", "fill 1", "fill 4", "job 0 0 -1",
            "take 76", "put 0 0", "step 0 9 9", "change 0 0 0 1", "swap 0 60");
        for (Scene scene : List.of(Scenes.planned(), Scenes.ring(), Scenes.empty(), Scenes.full())) {
            for (String call : same) {
                Real real = scene.real();
                String first = Words.answer(real, call);
                while (real.calls() < Real.MOST_CALLS) {
                    REPORT.due("the same to the 512th call", call, Words.answer(real, call), first);
                }
            }
        }
    }

    private static void swapsToTheLast() {
        Real real = Scenes.planned().real();
        boolean isSwapped = false;
        while (real.calls() + 2 <= Real.MOST_CALLS) {
            isSwapped = !isSwapped;
            due("to the 512th call", real, "swap 1 0", 1);
            due("to the 512th call", real, "span", isSwapped ? 9 : 8);
        }
        Real full = Scenes.fullOfOneMachine().real();
        while (full.calls() + 3 <= Real.MOST_CALLS) {
            dueRows("to the 512th call", full, "take 75 = 47", "put 75 47 = 48", "span = 5750");
        }
    }

    public static void main(String[] args) {
        empty();
        fullPlan();
        fullSwaps();
        fullRefusals();
        fullOrders();
        fullFills();
        betterAtTheLastPlace();
        greatestShare();
        greatestBound();
        lastCalls();
        sameCallToTheLast();
        swapsToTheLast();
        REPORT.end();
    }
}
