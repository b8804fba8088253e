import java.util.ArrayList;
import java.util.List;

/** Rows of calls whose answers, together, show all that an object holds. */
public final class Probes {
    private Probes() {
    }

    /** Each row is for an object of its own: some calls change it, and no object is called too often. */
    public static List<List<String>> of(Model model) {
        return List.of(orders(model), times(model), swaps(model), parts(model), changes(model), room(model),
            fills(model), takes(model));
    }

    private static List<String> places(Model model) {
        List<String> calls = new ArrayList<>();
        for (int machine = 0; machine <= model.machines; machine++) {
            int size = model.noMachine(machine) ? 0 : model.orders.get(machine).size();
            for (int place = -1; place <= size; place++) {
                calls.add("at " + machine + " " + place);
            }
        }
        return calls;
    }

    private static List<String> orders(Model model) {
        List<String> calls = places(model);
        for (int machine = 0; machine <= model.machines; machine++) {
            calls.add("bound " + machine);
        }
        calls.addAll(List.of("state", "span", "late", "better", "low", "share"));
        return calls;
    }

    private static List<String> times(Model model) {
        List<String> calls = new ArrayList<>();
        for (int step : model.all()) {
            for (int what = 0; what <= 2; what++) {
                calls.add("when " + step + " " + what);
            }
        }
        return calls;
    }

    private static List<String> swaps(Model model) {
        List<String> calls = new ArrayList<>();
        for (int machine = 0; machine < model.machines; machine++) {
            for (int place = 0; place < model.orders.get(machine).size(); place++) {
                calls.add("swapped " + machine + " " + place);
            }
        }
        calls.addAll(places(model));
        return calls;
    }

    private static List<String> parts(Model model) {
        List<String> calls = new ArrayList<>();
        for (int step : model.all()) {
            calls.add("part " + step + " 0");
            calls.add("part " + step + " 1");
        }
        return calls;
    }

    /** A change is shown by setting it. */
    private static List<String> changes(Model model) {
        List<String> calls = new ArrayList<>();
        for (int machine = 0; machine < model.machines; machine++) {
            for (int a = 0; a < model.jobs.size(); a++) {
                for (int b = 0; b < model.jobs.size(); b++) {
                    calls.add("change " + machine + " " + a + " " + b + " 0");
                }
            }
        }
        return calls;
    }

    /** How many jobs and steps there are, by adding to them until there is no room. */
    private static List<String> room(Model model) {
        List<String> calls = new ArrayList<>();
        for (int job = model.jobs.size(); job <= 8; job++) {
            calls.add("job 0 0 0");
        }
        for (int job = 0; job < 8; job++) {
            for (int place = model.noJob(job) ? 0 : model.steps.get(job).size(); place <= 6; place++) {
                calls.add("step " + job + " 0 1");
            }
        }
        return calls;
    }

    /** Dues, weights, releases and changes show in how the rules fill, and in what it costs. */
    private static List<String> fills(Model model) {
        List<String> calls = new ArrayList<>();
        for (int rule = 0; rule <= 3; rule++) {
            calls.add("fill " + rule);
            for (int machine = 0; machine < model.machines; machine++) {
                calls.add("at " + machine + " -1");
                calls.add("at " + machine + " 0");
            }
            for (int job = 0; job < model.jobs.size(); job++) {
                calls.add("when " + (10 * job + Math.max(0, model.steps.get(job).size() - 1)) + " 1");
            }
            calls.addAll(List.of("state", "span", "late", "better"));
        }
        return calls;
    }

    private static List<String> takes(Model model) {
        List<String> calls = new ArrayList<>();
        for (int step : model.all()) {
            calls.add("take " + step);
        }
        for (int step : model.all()) {
            calls.add("put " + step + " 0");
        }
        calls.addAll(places(model));
        return calls;
    }
}
