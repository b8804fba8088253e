import java.util.ArrayList;
import java.util.List;
import java.util.Map;

/**
 * In each scene, from the empty shop to the full one, each call with every mix of arguments at an edge: its answer
 * is held against the model's; a refused call, and a call that only asks, must leave all as before.
 */
public final class GridTest {
    private static final Report REPORT = new Report();
    /** As many refused calls at once as leave an object enough calls to be looked at. */
    private static final int BATCH = 20;
    private static final List<String> BUILDERS = List.of("job", "step", "change", "put", "take", "swap", "fill");

    private final String name;
    private final Scene scene;
    private Model model;
    private final List<String> harmless = new ArrayList<>();

    private GridTest(String name, Scene scene) {
        this.name = name;
        this.scene = scene;
        model = scene.model();
    }

    /** The least and the greatest int, and all from one number to another. */
    private static List<String> range(int from, int to) {
        List<String> words = new ArrayList<>(List.of("MIN"));
        for (int n = from; n <= to; n++) {
            words.add("" + n);
        }
        words.add("MAX");
        return words;
    }

    private static List<String> edges(int most) {
        return List.of("MIN", "-1", "0", "" + most, "" + (most + 1), "MAX");
    }

    private List<String> machines() {
        return range(-1, model.machines);
    }

    private List<String> someJobs() {
        int jobs = model.jobs.size();
        return List.of("MIN", "-1", "0", "1", "" + (jobs - 1), "" + jobs, "8", "MAX");
    }

    private List<String> steps() {
        return range(-11, 91);
    }

    private List<String> places() {
        int most = 0;
        for (List<Integer> order : model.orders) {
            most = Math.max(most, order.size());
        }
        return range(-2, most + 1);
    }

    private void mix(String call, List<List<String>> arguments) {
        if (arguments.isEmpty()) {
            ask(call);
            return;
        }
        for (String argument : arguments.get(0)) {
            mix(call + " " + argument, arguments.subList(1, arguments.size()));
        }
    }

    private void ask(String call) {
        Real real = scene.real();
        String got = Words.answer(real, call);
        String want = Words.answer(model, call);
        REPORT.due(name, call, got, want);
        if (want.startsWith("-") || !BUILDERS.contains(call.split(" ")[0])) {
            harmless.add(call);
            return;
        }
        for (String probe : List.of("state", "span", "late", "low")) {
            REPORT.due(name + ", behind " + call, probe, Words.answer(real, probe), Words.answer(model, probe));
        }
        model = scene.model();
    }

    private void askAll() {
        List<String> dates = edges(1000);
        mix("job", List.of(dates, dates, edges(20)));
        mix("step", List.of(someJobs(), machines(), edges(50)));
        mix("change", List.of(machines(), someJobs(), someJobs(), edges(50)));
        mix("put", List.of(steps(), List.of("MIN", "-1", "0", "1", "2", "3", "47", "48", "49", "MAX")));
        mix("take", List.of(steps()));
        mix("swap", List.of(machines(), places()));
        mix("at", List.of(machines(), places()));
        mix("fill", List.of(range(-1, 4)));
        mix("when", List.of(steps(), range(-1, 3)));
        mix("swapped", List.of(machines(), places()));
        mix("part", List.of(steps(), range(-1, 2)));
        mix("bound", List.of(machines()));
        for (String call : List.of("state", "span", "late", "better", "low", "share")) {
            ask(call);
        }
        for (int from = 0; from < harmless.size(); from += BATCH) {
            int to = Math.min(harmless.size(), from + BATCH);
            scene.dueUnchanged(REPORT, name, harmless.subList(from, to));
        }
    }

    public static void main(String[] args) {
        for (Map.Entry<String, Scene> entry : Scenes.all().entrySet()) {
            new GridTest(entry.getKey(), entry.getValue()).askAll();
        }
        REPORT.end();
    }
}
