import java.util.List;
import java.util.Random;

/** Random runs of calls, each answer held against a slow model that follows the document's words. */
public final class ModelTest {
    private static final int RUNS = 1500;
    private static final int MOST_WRONG = 10;
    private static final Report REPORT = new Report();
    private static int wrong = 0;

    /** One run: an object, its model, and what kind of shop is drawn. */
    private static final class Run {
        final int number;
        final Random random;
        final Real real;
        final Model model;
        final int mostTime;
        final int mostDate;
        final int mostJobs;
        final StringBuilder told = new StringBuilder();

        Run(int number) {
            this.number = number;
            random = new Random(number);
            int drawn = random.nextInt(9) - 1;
            real = new Real(drawn);
            model = new Model(drawn);
            mostTime = new int[] {0, 2, 5, 12, 50}[random.nextInt(5)];
            mostDate = new int[] {0, 3, 20, 1000}[random.nextInt(4)];
            mostJobs = 1 + random.nextInt(8);
            told.append("new ShopRules(").append(drawn).append(")");
        }

        int upTo(int most) {
            return random.nextInt(most + 1);
        }

        /** Mostly within, now and then at or beyond an edge. */
        int near(int most) {
            switch (random.nextInt(20)) {
                case 0:
                    return -1 - random.nextInt(2);
                case 1:
                    return most + 1;
                case 2:
                    return random.nextInt(10) == 0 ? random.nextInt() : most;
                default:
                    return upTo(Math.max(0, most));
            }
        }

        int nearMachine() {
            return near(model.machines - 1);
        }

        int nearJob() {
            return near(model.jobs.size() - 1);
        }

        int nearStep() {
            List<Integer> all = model.all();
            if (all.isEmpty() || random.nextInt(20) == 0) {
                return random.nextInt(100) - 10;
            }
            return all.get(random.nextInt(all.size()));
        }

        int nearDate(int most) {
            return random.nextInt(40) == 0 ? 998 + random.nextInt(5) : random.nextInt(40) == 0 ? -1 : upTo(most);
        }

        int nearTime() {
            return random.nextInt(40) == 0 ? 49 + random.nextInt(3) : random.nextInt(40) == 0 ? -1 : upTo(mostTime);
        }

        /** A machine and a place of its order. */
        String spot() {
            int machine = nearMachine();
            return machine + " " + near(model.noMachine(machine) ? 0 : model.orders.get(machine).size() - 2);
        }

        void due(String call) {
            String got = Words.answer(real, call);
            told.append('\n').append(call).append(" = ").append(got);
            if (!REPORT.due("run " + number, call, got, Words.answer(model, call))) {
                wrong++;
                if (wrong == 1) {
                    System.out.println(told);
                }
            }
        }

        void build() {
            switch (random.nextInt(8)) {
                case 0:
                    if (model.jobs.size() < mostJobs || random.nextInt(30) == 0) {
                        int latest = Math.min(1000, mostDate + mostTime * 4);
                        due("job " + nearDate(mostDate) + " " + nearDate(latest) + " " + near(20));
                    }
                    break;
                case 1:
                case 2:
                    due("change " + nearMachine() + " " + nearJob() + " " + nearJob() + " " + nearTime());
                    break;
                default:
                    due("step " + nearJob() + " " + nearMachine() + " " + nearTime());
                    break;
            }
        }

        void order() {
            switch (random.nextInt(10)) {
                case 0:
                    due("take " + nearStep());
                    break;
                case 1:
                    due("swap " + spot());
                    break;
                case 2:
                    due("at " + spot());
                    break;
                case 3:
                case 4:
                    due("fill " + near(3));
                    break;
                default:
                    int step = nearStep();
                    due("put " + step + " " + near(model.noStep(step) ? 0 : model.orderOf(step).size()));
                    break;
            }
        }

        void ask() {
            switch (random.nextInt(24)) {
                case 0:
                    due("state");
                    break;
                case 1:
                    due("span");
                    break;
                case 2:
                    due("late");
                    break;
                case 3:
                case 4:
                case 5:
                case 6:
                    due("swapped " + spot());
                    break;
                case 7:
                    due("better");
                    break;
                case 8:
                case 9:
                    due("part " + nearStep() + " " + near(1));
                    break;
                case 10:
                    askBounds();
                    break;
                case 11:
                case 12:
                    due("at " + spot());
                    break;
                default:
                    due("when " + nearStep() + " " + near(2));
                    break;
            }
        }

        /** All orders of eight steps take the model long, so this is asked seldom. */
        void askBounds() {
            if (model.all().size() > 25 && random.nextInt(12) > 0) {
                return;
            }
            switch (random.nextInt(3)) {
                case 0:
                    due("bound " + nearMachine());
                    break;
                case 1:
                    due("low");
                    break;
                default:
                    due("share");
                    break;
            }
        }

        void all() {
            int length = 30 + random.nextInt(Real.MOST_CALLS - 30);
            for (int call = 0; call < length && wrong < MOST_WRONG; call++) {
                int kind = random.nextInt(100);
                int building = 50 * (length - call) / length;
                if (kind < building / (call > length / 3 ? 10 : 1)) {
                    build();
                } else if (kind < 62) {
                    order();
                } else {
                    ask();
                }
            }
        }
    }

    public static void main(String[] args) {
        int runs = args.length > 0 ? Integer.parseInt(args[0]) : RUNS;
        for (int number = 0; number < runs && wrong < MOST_WRONG; number++) {
            new Run(number).all();
        }
        REPORT.end();
    }
}
