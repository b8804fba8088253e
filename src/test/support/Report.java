/** What was asked and how much of it was wrong. */
public final class Report {
    private static final int MOST_TOLD = 50;
    private int asked = 0;
    private int wrong = 0;

    public boolean due(String sentence, String call, String got, String want) {
        asked++;
        if (got.equals(want)) {
            return true;
        }
        wrong++;
        if (wrong <= MOST_TOLD) {
            System.out.println(sentence + ": " + call + " answered " + got + ", due is " + want);
        }
        return false;
    }

    public void end() {
        System.out.println(asked + " answers, " + wrong + " not as due");
        // A test that asks nothing must not pass.
        if (wrong != 0 || asked == 0) {
            System.exit(1);
        }
    }
}
