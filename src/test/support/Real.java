/** An object of the class. It counts its calls, since the document promises the answers of 512 alone. */
public final class Real implements Face {
    public static final int MOST_CALLS = 512;
    private final ShopRules rules;
    private int calls = 0;

    public Real(int machines) {
        rules = new ShopRules(machines);
    }

    public int calls() {
        return calls;
    }

    private ShopRules next() {
        if (calls == MOST_CALLS) {
            throw new IllegalStateException("the test itself calls an object too often");
        }
        calls++;
        return rules;
    }

    @Override
    public int job(int release, int due, int weight) {
        return next().job(release, due, weight);
    }

    @Override
    public int step(int job, int machine, int time) {
        return next().step(job, machine, time);
    }

    @Override
    public int change(int machine, int a, int b, int t) {
        return next().change(machine, a, b, t);
    }

    @Override
    public int put(int step, int place) {
        return next().put(step, place);
    }

    @Override
    public int take(int step) {
        return next().take(step);
    }

    @Override
    public int swap(int machine, int place) {
        return next().swap(machine, place);
    }

    @Override
    public int at(int machine, int place) {
        return next().at(machine, place);
    }

    @Override
    public int fill(int rule) {
        return next().fill(rule);
    }

    @Override
    public int state() {
        return next().state();
    }

    @Override
    public int when(int step, int what) {
        return next().when(step, what);
    }

    @Override
    public int span() {
        return next().span();
    }

    @Override
    public long late() {
        return next().late();
    }

    @Override
    public int swapped(int machine, int place) {
        return next().swapped(machine, place);
    }

    @Override
    public int better() {
        return next().better();
    }

    @Override
    public int part(int step, int what) {
        return next().part(step, what);
    }

    @Override
    public int bound(int machine) {
        return next().bound(machine);
    }

    @Override
    public int low() {
        return next().low();
    }

    @Override
    public long share() {
        return next().share();
    }
}
