import java.util.ArrayList;
import java.util.List;

/** A shop that tests begin with: how many machines, and the calls that make the rest. */
public final class Scene {
    private final int machines;
    private final List<String> calls = new ArrayList<>();

    public Scene(int machines) {
        this.machines = machines;
    }

    /** Calls behind one another with ; between them. */
    public Scene with(String more) {
        for (String call : more.split(";")) {
            calls.add(call.trim());
        }
        return this;
    }

    public Real real() {
        return built(new Real(machines));
    }

    public Model model() {
        return built(new Model(machines));
    }

    private <F extends Face> F built(F face) {
        for (String call : calls) {
            if (Words.answer(face, call).startsWith("-")) {
                throw new IllegalStateException("a scene is refused: " + call);
            }
        }
        return face;
    }

    /** Holds an object behind some calls against one that has not had them. */
    public void dueUnchanged(Report report, String sentence, List<String> refused) {
        for (List<String> row : Probes.of(model())) {
            Real touched = real();
            for (String call : refused) {
                Words.answer(touched, call);
            }
            Real untouched = real();
            for (String probe : row) {
                String want = Words.answer(untouched, probe);
                report.due(sentence + ", behind " + refused, probe, Words.answer(touched, probe), want);
            }
        }
    }
}
