import java.util.List;

/**
 * Each sentence of the document that names a boundary, by itself. A row holds calls with ; between them; behind
 * a = stands the answer that is due, and a call without one must not be refused.
 */
public final class SentenceTest {
    private static final Report REPORT = new Report();
    private static final String[] BELOW = {"-1", "-2", "MIN"};

    private static void test(String sentence, int machines, String... rows) {
        Real real = new Real(machines);
        for (String row : rows) {
            for (String call : row.split(";")) {
                ask(sentence, real, call.trim());
            }
        }
    }

    private static void ask(String sentence, Real real, String row) {
        String[] parts = row.split(" = ");
        String got = Words.answer(real, parts[0]);
        if (parts.length > 1) {
            REPORT.due(sentence, parts[0], got, parts[1]);
        } else if (got.startsWith("-")) {
            REPORT.due(sentence, parts[0], got, "no refusal");
        }
    }

    /** Each call by itself in the same scene: its answer, and that nothing has changed behind it. */
    private static void unchanging(String sentence, Scene scene, String... rows) {
        for (String row : rows) {
            String call = row.split(" = ")[0];
            ask(sentence, scene.real(), row);
            scene.dueUnchanged(REPORT, sentence, List.of(call));
        }
    }

    /** A value below 0 and above the most that may be, at a place of the call that is marked with #. */
    private static void refusedOutside(String sentence, Scene scene, String call, int most, int refusal) {
        for (String below : BELOW) {
            unchanging(sentence, scene, call.replace("#", below) + " = " + refusal);
        }
        unchanging(sentence, scene, call.replace("#", "" + (most + 1)) + " = " + refusal,
            call.replace("#", "MAX") + " = " + refusal);
    }

    private static void machines(int told, int m) {
        int last = m - 1;
        test("1: M MACHINES, the nearest that may be (" + told + ")", told, "at " + last + " -1 = 0",
            "at " + m + " -1 = -1",
            "bound " + last + " = 0; bound " + m + " = -1; job 0 0 0 = 0; job 0 0 0 = 1",
            "change " + last + " 0 1 5 = 0; change " + m + " 0 1 5 = -1",
            "step 0 " + m + " 1 = -2; step 0 " + last + " 1 = 1; step 1 " + last + " 1 = 1; put 0 0 = 1; put 10 1 = 2",
            "span = 7; swapped " + m + " 0 = -1; swapped " + last + " 0 = 2; swap " + m + " 0 = -1",
            "swap " + last + " 0 = 1",
            "at " + m + " 0 = -1; at " + last + " 0 = 10");
    }

    private static void newObject() {
        for (int told : new int[] {Integer.MIN_VALUE, -1000, -5, -1, 0, 1}) {
            machines(told, 1);
        }
        machines(2, 2);
        machines(3, 3);
        machines(4, 4);
        for (int told : new int[] {5, 6, 7, 1000, Integer.MAX_VALUE}) {
            machines(told, 5);
        }
        test("1: a new object has no JOBS", 2, "step 0 0 0 = -1; change 0 0 1 0 = -1; late = 0; job 0 0 0 = 0");
        test("1: a new object has no STEPS", 2, "put 0 0 = -1; take 0 = -1; when 0 0 = -1; part 0 0 = -1; fill 0 = 0");
        test("1: a new object has empty ORDERS", 2, "at 0 -1 = 0; at 1 -1 = 0; at 0 0 = -1; swap 0 0 = -1; state = 0");
    }

    private static void job() {
        test("2: RELEASE 0", 1, "job 0 0 0 = 0; step 0 0 0; put 0 0; when 0 0 = 0; part 0 0 = 0; low = 0");
        test("2: RELEASE 1000", 1, "job 1000 0 0 = 0; step 0 0 0; put 0 0; when 0 0 = 1000; part 0 0 = 1000",
            "low = 1000");
        test("2: DUE 0", 1, "job 0 0 1 = 0; step 0 0 7; put 0 0; late = 7");
        test("2: DUE 1000", 1, "job 1000 1000 20 = 0; late = 0; step 0 0 1; put 0 0; late = 20");
        test("2: WEIGHT 0", 1, "job 1000 0 0 = 0; late = 0; job 3 0 1 = 1; late = 3");
        test("2: WEIGHT 20", 1, "job 1000 0 20 = 0; late = 20000; job 1000 0 19 = 1; late = 39000");
        for (Scene scene : List.of(Scenes.empty(), Scenes.idle(), Scenes.planned(), Scenes.open(), Scenes.ring(),
            Scenes.eightJobs())) {
            refusedOutside("2: -2 RELEASE 0 to 1000", scene, "job # 5 5", 1000, -2);
            refusedOutside("2: -2 DUE 0 to 1000", scene, "job 5 # 5", 1000, -2);
            refusedOutside("2: -2 WEIGHT 0 to 20", scene, "job 5 5 #", 20, -2);
        }
        test("2: its number, 8 at most", 1, "job 1 1 1 = 0; job 1 1 1 = 1; job 1 1 1 = 2; job 1 1 1 = 3; job 1 1 1 = 4",
            "job 1 1 1 = 5; job 1 1 1 = 6; job 1 1 1 = 7; job 1 1 1 = -4; job 1 1 1 = -4");
        unchanging("2: -4 of a ninth JOB", Scenes.eightJobs(), "job 0 0 0 = -4", "job 1000 1000 20 = -4",
            "job 5 5 5 = -4");
        unchanging("2: -2 comes before -4", Scenes.eightJobs(), "job 1001 0 0 = -2", "job 0 1001 0 = -2",
            "job 0 0 21 = -2");
        test("2: a new JOB has no STEPS", 1, "job 5 0 0 = 0; part 0 0 = -1; put 0 0 = -1; state = 0; fill 0 = 0",
            "step 0 0 1 = 1");
        test("2: each JOB has its own RELEASE, DUE, WEIGHT", 1, "job 1 9 2; job 2 8 3; job 3 7 5; step 0 0 10",
            "step 1 0 10",
            "step 2 0 10; part 0 0 = 1; part 10 0 = 2; part 20 0 = 3; fill 1 = 3; at 0 0 = 20; at 0 1 = 10; at 0 2 = 0",
            "late = " + (2 * (33 - 9) + 3 * (23 - 8) + 5 * (13 - 7)));
    }

    private static void step() {
        test("3: TIME 0", 1, "job 4 0 0; step 0 0 0 = 1; put 0 0; when 0 0 = 4; when 0 1 = 4");
        test("3: TIME 50", 1, "job 4 0 0; step 0 0 50 = 1; put 0 0; when 0 0 = 4; when 0 1 = 54");
        test("3: MACHINE 0 and M - 1", 3, "job 0 0 0; step 0 0 1 = 1; step 0 2 1 = 2; put 0 0 = 1; put 1 0 = 1",
            "at 0 0 = 0; at 1 -1 = 0; at 2 0 = 1");
        unchanging("3: -1 no such JOB", Scenes.empty(), "step 0 0 0 = -1", "step -1 0 0 = -1");
        for (Scene scene : List.of(Scenes.idle(), Scenes.planned(), Scenes.open())) {
            refusedOutside("3: -1 no such JOB", scene, "step # 0 1", 2, -1);
        }
        refusedOutside("3: -1 no such JOB of eight", Scenes.eightJobs(), "step # 0 1", 7, -1);
        for (Scene scene : List.of(Scenes.idle(), Scenes.planned(), Scenes.open(), Scenes.ring(), Scenes.sixSteps())) {
            refusedOutside("3: -2 MACHINE", scene, "step 0 # 1", 1, -2);
            refusedOutside("3: -2 TIME 0 to 50", scene, "step 0 1 #", 50, -2);
        }
        test("3: how many it has, 6 at most", 1, "job 0 0 0; step 0 0 1 = 1; step 0 0 1 = 2; step 0 0 1 = 3",
            "step 0 0 1 = 4; step 0 0 1 = 5; step 0 0 1 = 6; step 0 0 1 = -4; step 0 0 1 = -4");
        test("3: each JOB has its own STEPS", 1, "job 0 0 0; job 0 0 0; step 1 0 1 = 1; step 1 0 1 = 2; step 0 0 1 = 1",
            "step 1 0 1 = 3; step 0 0 1 = 2; step 1 0 1 = 4; step 1 0 1 = 5; step 1 0 1 = 6; step 1 0 1 = -4",
            "step 0 0 1 = 3");
        unchanging("3: -4 of a seventh STEP", Scenes.sixSteps(), "step 0 0 0 = -4", "step 0 1 50 = -4");
        unchanging("3: -1 comes before -2", Scenes.planned(), "step 3 2 0 = -1", "step -1 0 51 = -1",
            "step MAX MAX MAX = -1",
            "step MIN MIN MIN = -1");
        unchanging("3: -2 comes before -4", Scenes.sixSteps(), "step 0 2 0 = -2", "step 0 -1 0 = -2",
            "step 0 0 51 = -2",
            "step 0 0 -1 = -2");
        test("3: it is the last one", 2, "job 2 0 0; step 0 0 3; step 0 1 4; part 0 0 = 2; part 1 0 = 5",
            "part 0 1 = 4; part 1 1 = 0");
        test("3: it is OPEN", 1, "job 0 0 0; state = 0; step 0 0 3; state = 1; at 0 -1 = 0; take 0 = -3",
            "put 0 0 = 1; state = 0; step 0 0 1; state = 1; at 0 -1 = 1; take 1 = -3; span = -3; late = NOTHING");
        test("3: a STEP is told as 10 times its JOB and its place", 1, "job 0 0 0; job 0 0 0; step 1 0 1",
            "put 10 0 = 1; put 0 0 = -1",
            "put 1 0 = -1; put 11 0 = -1; step 1 0 1; put 11 0 = 2; at 0 0 = 11; at 0 1 = 10");
    }

    private static void change() {
        test("4: at first 0, then what it was", 2, "job 0 0 0; job 0 0 0; change 0 0 1 50 = 0; change 0 0 1 0 = 50",
            "change 0 0 1 1 = 0; change 0 0 1 1 = 1; change 0 0 1 49 = 1; change 0 0 1 50 = 49; change 0 0 1 50 = 50");
        test("4: the other way and other MACHINES have their own", 2, "job 0 0 0; job 0 0 0; change 0 0 1 3",
            "change 0 1 0 4 = 0",
            "change 1 0 1 5 = 0; change 1 1 0 6 = 0; change 0 0 1 0 = 3; change 0 1 0 0 = 4; change 1 0 1 0 = 5",
            "change 1 1 0 0 = 6");
        changesOfAll(0, 3);
        changesOfAll(1, 4);
        unchanging("4: -1 without JOBS", Scenes.empty(), "change 0 0 1 0 = -1", "change 0 0 0 0 = -1");
        unchanging("4: -1 of one JOB alone", new Scene(1).with("job 0 0 0"), "change 0 0 1 7 = -1",
            "change 0 1 0 7 = -1");
        for (Scene scene : List.of(Scenes.idle(), Scenes.planned(), Scenes.open())) {
            refusedOutside("4: -1 no such MACHINE", scene, "change # 0 1 7", 1, -1);
            refusedOutside("4: -1 no such JOB a", scene, "change 0 # 1 7", 2, -1);
            refusedOutside("4: -1 no such JOB b", scene, "change 0 1 # 7", 2, -1);
            unchanging("4: -1 a is b", scene, "change 0 0 0 7 = -1", "change 1 2 2 0 = -1", "change 1 1 1 50 = -1");
            refusedOutside("4: -2 CHANGE 0 to 50", scene, "change 0 0 1 #", 50, -2);
            unchanging("4: -1 comes before -2", scene, "change 2 0 1 51 = -1", "change 0 3 1 51 = -1",
                "change 0 0 3 -1 = -1", "change 0 1 1 51 = -1", "change MAX MAX MAX MAX = -1",
                "change MIN MIN MIN MIN = -1", "change 0 -1 -1 51 = -1");
        }
        unchanging("4: -1 a is b, where STEPS of a JOB are neighbours", Scenes.sixSteps(), "change 0 0 0 7 = -1",
            "change 1 0 0 50 = -1", "change 1 1 1 1 = -1", "change 0 0 0 51 = -1");
        test("4: to the same JOB it stays 0", 1, "job 0 0 0; step 0 0 1; step 0 0 2; fill 0; change 0 0 0 50 = -1",
            "span = 3",
            "when 1 0 = 1; fill 2; span = 3");
        refusedOutside("4: -1 no such JOB of eight", Scenes.eightJobs(), "change 0 # 1 7", 7, -1);
        refusedOutside("4: -1 no such JOB of eight", Scenes.eightJobs(), "change 0 1 # 7", 7, -1);
        test("4: THE PLAN has it at once", 1, "job 0 0 0; job 0 0 0; step 0 0 3; step 1 0 4; put 0 0; put 10 1",
            "span = 7; change 0 0 1 50; span = 57; change 0 1 0 9; span = 57; change 0 0 1 0; span = 7");
    }

    /** Each machine and pair of eight jobs gets a time of its own and keeps it. */
    private static void changesOfAll(int from, int to) {
        Real real = new Real(5);
        for (int job = 0; job < 8; job++) {
            real.job(0, 0, 0);
        }
        for (int pass = 0; pass < 2; pass++) {
            for (int k = from * 64; k < (to + 1) * 64; k++) {
                int a = k / 8 % 8;
                int b = k % 8;
                if (a != b) {
                    ask("4: each pair has its own", real,
                        "change " + k / 64 + " " + a + " " + b + " " + k % 51 + " = " + (pass == 0 ? 0 : k % 51));
                }
            }
        }
    }

    private static void put() {
        Scene three = new Scene(2).with("job 0 0 0; job 0 0 0; step 0 0 1; step 0 0 2; step 0 0 3")
            .with("step 1 0 4; step 1 1 5")
            .with("put 0 0; put 1 1; put 2 2");
        String[] rows = {"10 0 1 2", "0 10 1 2", "0 1 10 2", "0 1 2 10"};
        for (int place = 0; place <= 3; place++) {
            Real real = three.real();
            ask("5: at a place (0 to how many it has)", real, "put 10 " + place + " = 4");
            String[] row = rows[place].split(" ");
            for (int k = 0; k < 4; k++) {
                ask("5: put at " + place, real, "at 0 " + k + " = " + row[k]);
            }
            ask("5: into its MACHINE's ORDER alone", real, "at 1 -1 = 0");
        }
        refusedOutside("5: -2 place", three, "put 10 #", 3, -2);
        refusedOutside("5: -2 place of an empty ORDER", three, "put 11 #", 0, -2);
        test("5: how many it has then", 1, "job 0 0 0; step 0 0 1; step 0 0 1; step 0 0 1; put 1 0 = 1; put 2 1 = 2",
            "put 0 0 = 3");
        for (String none : List.of("MIN", "-10", "-9", "-1", "3", "4", "5", "6", "9", "12", "19", "20", "70", "79",
            "80", "85", "100", "MAX")) {
            unchanging("5: -1 no such STEP", three, "put " + none + " 0 = -1");
        }
        unchanging("5: -1 without STEPS", Scenes.idle(), "put 0 0 = -1", "put 10 0 = -1", "put 20 0 = -1",
            "put 30 0 = -1");
        unchanging("5: -3 it is not OPEN", three, "put 0 0 = -3", "put 0 1 = -3", "put 1 3 = -3", "put 2 0 = -3");
        unchanging("5: -3 in a full ORDER", Scenes.planned(), "put 0 2 = -3", "put 10 0 = -3", "put 20 1 = -3",
            "put 1 2 = -3");
        unchanging("5: -1 comes before -2", three, "put 3 9 = -1", "put -1 -1 = -1", "put 20 MAX = -1",
            "put MIN MIN = -1");
        unchanging("5: -2 comes before -3", three, "put 0 4 = -2", "put 0 -1 = -2", "put 1 MAX = -2", "put 2 MIN = -2");
        test("5: it is no longer OPEN", 1, "job 0 0 0; step 0 0 1; put 0 0 = 1; put 0 0 = -3; put 0 1 = -3",
            "state = 0; take 0 = 0");
    }

    private static void take() {
        Scene three = new Scene(2).with("job 0 0 0; job 0 0 0; step 0 0 1; step 0 0 2; step 0 0 3")
            .with("step 1 1 4; step 1 1 5")
            .with("put 0 0; put 1 1; put 2 2; put 10 0");
        String[] rows = {"1 2", "0 2", "0 1"};
        for (int step = 0; step <= 2; step++) {
            Real real = three.real();
            ask("6: its place", real, "take " + step + " = " + step);
            ask("6: a STEP goes out of its ORDER", real, "at 0 -1 = 2");
            ask("6: a STEP goes out of its ORDER", real, "at 0 0 = " + rows[step].split(" ")[0]);
            ask("6: a STEP goes out of its ORDER", real, "at 0 1 = " + rows[step].split(" ")[1]);
            ask("6: a STEP goes out of its ORDER", real, "at 0 2 = -1");
            ask("6: of no other ORDER", real, "at 1 -1 = 1");
            ask("6: it is OPEN then", real, "take " + step + " = -3");
            ask("6: it is OPEN then", real, "put " + step + " 2 = 3");
        }
        test("6: the only one", 1, "job 0 0 0; step 0 0 1; put 0 0; take 0 = 0; at 0 -1 = 0; at 0 0 = -1; state = 1",
            "put 0 0 = 1");
        for (String none : List.of("MIN", "-10", "-1", "3", "6", "9", "12", "20", "79", "80", "MAX")) {
            unchanging("6: -1 no such STEP", three, "take " + none + " = -1");
        }
        unchanging("6: -1 without STEPS", Scenes.idle(), "take 0 = -1", "take 10 = -1");
        unchanging("6: -1 without JOBS", Scenes.empty(), "take 0 = -1");
        unchanging("6: -3 it is OPEN", three, "take 11 = -3");
        unchanging("6: -3 it is OPEN", Scenes.open(), "take 10 = -3");
        test("6: filled STEPS are not OPEN", 1, "job 0 0 0; step 0 0 1; step 0 0 2; fill 0; take 1 = 1; take 0 = 0",
            "take 0 = -3");
    }

    private static void swap() {
        Scene four = new Scene(2).with("job 0 0 0; job 0 0 0; step 0 0 1; step 0 0 2; step 0 0 3")
            .with("step 0 0 4; step 1 1 5")
            .with("put 0 0; put 1 1; put 2 2; put 3 3; put 10 0");
        String[] rows = {"1 0 2 3", "0 2 1 3", "0 1 3 2"};
        for (int place = 0; place <= 2; place++) {
            Real real = four.real();
            ask("7: 1", real, "swap 0 " + place + " = 1");
            for (int k = 0; k < 4; k++) {
                ask("7: the STEPS at a place and the next one change places", real,
                    "at 0 " + k + " = " + rows[place].split(" ")[k]);
            }
            ask("7: of no other ORDER", real, "at 1 0 = 10");
        }
        refusedOutside("7: -1 no such places", four, "swap 0 #", 2, -1);
        unchanging("7: -1 behind the last place", four, "swap 0 4 = -1", "swap 0 5 = -1");
        refusedOutside("7: -1 of one STEP alone", four, "swap 1 #", -1, -1);
        refusedOutside("7: -1 of an empty ORDER", Scenes.idle(), "swap 1 #", -1, -1);
        refusedOutside("7: -1 no such MACHINE", four, "swap # 0", 1, -1);
        refusedOutside("7: -1 no such MACHINE", Scenes.planned(), "swap # 0", 1, -1);
        unchanging("7: -1 both", four, "swap -1 -1 = -1", "swap 2 3 = -1", "swap MAX MAX = -1", "swap MIN MIN = -1");
        test("7: of an ORDER with OPEN ones beside it", 1, "job 0 0 0; step 0 0 1; step 0 0 1; step 0 0 1; put 0 0",
            "put 1 1; swap 0 1 = -1; swap 0 0 = 1; at 0 0 = 1; at 0 1 = 0; state = 1");
        test("7: into a RING and out of it", 1, "job 0 0 0; step 0 0 1; step 0 0 1; fill 0; swap 0 0 = 1; state = 2",
            "swap 0 0 = 1; state = 0");
    }

    private static void at() {
        Scene scene = Scenes.planned();
        test("8: how many STEPS an ORDER has (place = -1)", 2, "at 0 -1 = 0; job 0 0 0; at 0 -1 = 0; step 0 0 1",
            "at 0 -1 = 0; put 0 0",
            "at 0 -1 = 1; at 1 -1 = 0; step 0 0 1; put 1 0; at 0 -1 = 2; take 0; at 0 -1 = 1; fill 0; at 0 -1 = 2");
        Real real = scene.real();
        for (String row : List.of("at 0 0 = 0", "at 0 1 = 10", "at 1 0 = 20", "at 1 1 = 1")) {
            ask("8: which is at a place", real, row);
        }
        unchanging("8: -1 no such place", scene, "at 0 2 = -1", "at 0 3 = -1", "at 0 MAX = -1", "at 0 -2 = -1",
            "at 0 MIN = -1");
        unchanging("8: -1 no such place of an empty ORDER", Scenes.idle(), "at 0 0 = -1", "at 0 1 = -1",
            "at 0 -2 = -1");
        refusedOutside("8: -1 no such MACHINE", scene, "at # 0", 1, -1);
        refusedOutside("8: -1 no such MACHINE", scene, "at # -1", 1, -1);
    }

    private static void fill() {
        for (Scene scene : List.of(Scenes.empty(), Scenes.idle(), Scenes.planned(), Scenes.open(), Scenes.ring(),
            Scenes.sixSteps())) {
            refusedOutside("9: -2 rule 0 to 3", scene, "fill #", 3, -2);
        }
        for (int rule = 0; rule <= 3; rule++) {
            test("9: how many STEPS there are", 2, "fill " + rule + " = 0; job 5 0 0; fill " + rule + " = 0",
                "state = 0; at 0 -1 = 0",
                "step 0 1 1; fill " + rule + " = 1; at 1 0 = 0; job 0 0 0; step 0 0 1; fill " + rule + " = 2",
                "fill " + rule + " = 2");
            test("9: all ORDERS are emptied", 1, "job 0 0 0; step 0 0 1; step 0 0 1; put 1 0; put 0 1; state = 2",
                "fill " + rule + " = 2",
                "state = 0; at 0 -1 = 2; at 0 0 = 0; at 0 1 = 1; at 0 2 = -1");
            test("9: JOBS without STEPS have no NEXT", 1, "job 0 0 0; job 0 0 0; job 0 0 0; step 1 0 5",
                "fill " + rule + " = 1; at 0 0 = 10");
            test("9: of like ends the least JOB tells", 1, "job 5 9 0; job 5 0 0; step 0 0 0; step 1 0 0",
                "fill " + rule + " = 2",
                "at 0 0 = 0; at 0 1 = 10");
            test("9: of like ones the least JOB", 1, "job 2 7 0; job 2 7 0; job 2 7 0; step 0 0 4; step 1 0 4",
                "step 2 0 4",
                "fill " + rule + "; at 0 0 = 0; at 0 1 = 10; at 0 2 = 20");
            test("9: itself, though of no TIME", 1, "job 4 0 0; step 0 0 0; fill " + rule + " = 1; at 0 0 = 0",
                "when 0 0 = 4");
            test("9: a STEP of a JOB comes behind that before it", 1, "job 0 0 0; step 0 0 50; step 0 0 0",
                "step 0 0 9; fill " + rule,
                "at 0 0 = 0; at 0 1 = 1; at 0 2 = 2");
        }
        test("9: all ORDERS are emptied, also those of a fill before", 1, "job 0 0 0; step 0 0 1; step 0 0 1",
            "fill 0; fill 1",
            "state = 0; at 0 -1 = 2; take 1 = 1; state = 1; put 1 1 = 2; state = 0; take 0; take 1; state = 1",
            "fill 2; state = 0");
        fillRivals();
        fillRules();
    }

    private static void fillRivals() {
        String two = "step 0 0 3; step 1 0 5; fill 1; ";
        test("9: not one that would begin at that end", 1, "job 0 9 0; job 3 0 0; " + two + "at 0 0 = 0; at 0 1 = 10");
        test("9: one that would begin before that end", 1, "job 0 9 0; job 2 0 0; " + two + "at 0 0 = 10; at 0 1 = 0");
        String three = "job 0 0 0; job 0 9 0; job 0 5 0; step 0 0 2; step 1 0 3; step 2 0 9; ";
        test("9: it would begin CHANGE later", 1, three + "change 0 0 2 3; fill 1; at 0 0 = 0; at 0 1 = 10",
            "at 0 2 = 20");
        test("9: it would begin CHANGE later", 1, three + "change 0 0 2 2; fill 1; at 0 0 = 0; at 0 1 = 20",
            "at 0 2 = 10");
        test("9: no CHANGE ahead of the first of an ORDER", 1, "job 0 0 0; job 0 0 0; change 0 0 1 50",
            "change 0 1 0 50; step 0 0 2; step 1 0 1; fill 0; at 0 0 = 10; when 10 0 = 0; when 0 0 = 51");
        test("9: CHANGE to the same JOB is 0", 1, "job 0 0 0; job 0 0 0; change 0 0 1 1; change 0 1 0 50",
            "step 0 0 2; step 0 0 3; step 1 0 3; fill 3; at 0 0 = 0; at 0 1 = 1; at 0 2 = 10; span = 9");
        test("9: not one that would begin behind that end", 1, "job 0 9 0; job 4 0 0; " + two + "at 0 0 = 0",
            "at 0 1 = 10");
        test("9: not one of a lesser JOB that would begin behind that end", 1, "job 5 0 0; job 0 9 0; " + two
            + "at 0 0 = 10; at 0 1 = 0");
        test("9: itself, though it would not begin before that end", 1, "job 5 0 0; job 4 0 0; step 0 0 0; step 1 0 1",
            "fill 0; at 0 0 = 0; at 0 1 = 10; fill 3; at 0 0 = 10; at 0 1 = 0");
        test("9: the one that would end first tells, not that would begin first", 1, "job 0 5 0; job 5 9 0; job 7 0 0",
            "step 0 0 9; step 1 0 1; step 2 0 1; fill 1; at 0 0 = 0; at 0 1 = 20; at 0 2 = 10");
        test("9: CHANGE from the last one of the ORDER", 1, "job 3 0 0; job 0 0 0; job 0 9 0; step 1 0 1",
            "step 1 0 1; step 2 0 4",
            "step 0 0 4; change 0 1 2 50; change 0 1 0 2; fill 1; at 0 0 = 10; at 0 1 = 11; at 0 2 = 0; at 0 3 = 20",
            "when 0 0 = 4; change 0 1 0 40; change 0 1 2 3; fill 0; at 0 1 = 11; at 0 2 = 20; at 0 3 = 0",
            "when 20 0 = 5");
        test("9: CHANGE from the last one of the ORDER, not from its first", 1, "job 0 0 0; job 0 0 0; job 0 0 0",
            "job 0 0 0; step 0 0 1; step 1 0 2; step 2 0 3; step 3 0 9; change 0 0 2 50; fill 0; at 0 0 = 0",
            "at 0 1 = 10; at 0 2 = 20; at 0 3 = 30; when 20 0 = 3; change 0 1 2 50; change 0 0 2 0; fill 0",
            "at 0 0 = 0; at 0 1 = 10; at 0 2 = 30; at 0 3 = 20; when 30 0 = 3");
        test("9: only NEXT on the MACHINE that was told", 2, "job 0 9 0; job 0 5 0; job 5 0 0; step 0 0 4",
            "step 1 1 9; step 2 1 2",
            "fill 1; at 0 0 = 0; at 1 0 = 20; at 1 1 = 10");
        test("9: only NEXT on the MACHINE that was told", 2, "job 0 9 0; job 0 0 0; step 0 0 3; step 1 1 5; fill 1",
            "at 0 0 = 0; at 1 0 = 10");
        test("9: NEXT would not begin before that before it in its JOB ends", 2, "job 0 9 0; job 0 0 0; step 0 0 5",
            "step 0 1 1; step 1 1 9",
            "fill 0; at 1 0 = 1; at 1 1 = 10; fill 1; at 1 0 = 10; at 1 1 = 1; fill 3; at 1 0 = 10; at 1 1 = 1",
            "span = 10");
    }

    private static void fillRules() {
        String jobs = "job 1 6 0; job 0 5 0; job 0 4 0; ";
        String steps = "step 0 0 4; step 1 0 5; step 2 0 6; ";
        test("9: rule 0 of the least TIME", 1, jobs + steps + "fill 0; at 0 0 = 0; at 0 1 = 10; at 0 2 = 20");
        test("9: rule 1 of the JOB of the least DUE", 1, jobs + steps + "fill 1; at 0 0 = 20; at 0 1 = 10; at 0 2 = 0");
        test("9: rule 2 of the most TIME left", 2, jobs + steps + "step 1 1 2; fill 2; at 0 0 = 10; at 0 1 = 20",
            "at 0 2 = 0");
        test("9: rule 2 of like ones the least JOB", 2, jobs + steps + "step 1 1 1; fill 2; at 0 0 = 10",
            "at 0 1 = 20; at 0 2 = 0");
        test("9: rule 3 that would begin first", 1, jobs + steps + "fill 3; at 0 0 = 10; at 0 1 = 0; at 0 2 = 20");
        String likeOnes = "; at 0 0 = 0; at 0 1 = 10";
        test("9: rule 0 of like ones the least JOB, whatever else", 2, "job 2 9 0; job 0 1 20; step 0 0 5; step 1 0 5",
            "step 1 1 9; fill 0" + likeOnes);
        test("9: rule 1 of like ones the least JOB, whatever else", 2, "job 2 5 0; job 0 5 20; step 0 0 9; step 1 0 4",
            "step 1 1 30; fill 1" + likeOnes);
        test("9: rule 2 of like ones the least JOB, whatever else", 2, "job 2 9 0; job 0 1 20; step 0 0 9; step 1 0 4",
            "step 1 1 5; fill 2" + likeOnes);
        test("9: rule 3 of like ones the least JOB, whatever else", 2, "job 0 9 0; job 0 1 20; step 0 0 9; step 1 0 4",
            "step 1 1 30; fill 3" + likeOnes);
        test("9: rule 2 counts no TIME that is behind it already", 2, "job 3 0 0; job 0 0 0; step 0 0 4; step 1 1 3",
            "step 1 0 2; fill 2; at 0 0 = 0; at 0 1 = 11");
        test("9: rule 3 counts CHANGE", 1, "job 0 0 0; job 0 0 0; job 0 0 0; step 0 0 1; step 1 0 4; step 2 0 5",
            "change 0 0 1 3; fill 3; at 0 0 = 0; at 0 1 = 20; at 0 2 = 10");
    }

    private static void state() {
        test("10: 0 without STEPS", 1, "state = 0; job 1000 0 0; state = 0");
        test("10: 1 a STEP is OPEN", 1, "job 0 0 0; step 0 0 0; state = 1; put 0 0; state = 0; take 0; state = 1",
            "fill 0; state = 0");
        test("10: 1 the last one alone is OPEN", 2, "job 0 0 0; job 0 0 0; step 0 0 1; step 1 1 1; put 0 0",
            "state = 1; put 10 0; state = 0");
        test("10: 1 though others are in a RING", 1, "job 0 0 0; step 0 0 1; step 0 0 1; step 0 0 1; put 1 0",
            "put 0 1; state = 1; put 2 2; state = 2; take 2; state = 1; take 0; put 0 0; put 2 2; state = 0");
        test("10: 2 two STEPS of a JOB the wrong way round", 1, "job 0 0 0; step 0 0 0; step 0 0 0; put 1 0",
            "put 0 1; state = 2");
        test("10: 2 across MACHINES", 2, "job 0 0 1; job 0 0 1; step 0 0 1; step 0 1 2; step 1 1 3; step 1 0 4",
            "put 11 0; put 0 1",
            "put 1 0; state = 1; put 10 1; state = 2; swap 1 0; state = 0; swap 0 0; state = 0; swap 1 0; state = 0");
        test("10: 2 though some STEPS do not wait", 2, "job 0 0 0; job 0 0 0; step 0 0 1; step 0 0 1; step 1 1 1",
            "fill 0; state = 0; swap 0 0; state = 2; when 10 0 = -3; span = -3");
        test("10: 2 round five MACHINES", 5, "job 0 0 0; job 0 0 0; job 0 0 0; job 0 0 0; job 0 0 0",
            "step 0 0 1; step 0 1 1; step 1 1 1; step 1 2 1; step 2 2 1; step 2 3 1; step 3 3 1; step 3 4 1",
            "step 4 4 1; step 4 0 1",
            "put 41 0; put 0 1; put 1 0; put 10 1; put 11 0; put 20 1; put 21 0; put 30 1; put 31 0; put 40 1",
            "state = 2; swap 3 0; state = 0; swap 3 0; state = 2; swap 0 0; state = 0");
    }

    private static void when() {
        test("11: not before its RELEASE", 1, "job 6 0 0; step 0 0 2; put 0 0; when 0 0 = 6; when 0 1 = 8");
        test("11: not before that before it in its JOB ends", 2, "job 6 0 0; step 0 0 2; step 0 1 3; fill 0",
            "when 1 0 = 8; when 1 1 = 11");
        String pair = "job 0 0 0; job 9 0 0; step 0 0 3; step 1 0 1; put 0 0; put 10 1; ";
        test("11: not before that before it in its ORDER ends", 1, "job 0 0 0; job 2 0 0; step 0 0 3; step 1 0 1",
            "put 0 0; put 10 1; when 10 0 = 3");
        test("11: and CHANGE more", 1, pair + "change 0 0 1 6; when 10 0 = 9; change 0 0 1 7; when 10 0 = 10",
            "when 10 1 = 11");
        test("11: no CHANGE of another MACHINE or the other way", 2, pair + "change 1 0 1 50; change 0 1 0 50",
            "when 10 0 = 9");
        test("11: CHANGE of neighbours alone", 1, "job 0 0 0; job 0 0 0; job 0 0 0; step 0 0 1; step 1 0 0",
            "step 2 0 1; change 0 0 2 50",
            "put 0 0; put 10 1; put 20 2; when 20 0 = 1; swap 0 1; when 20 0 = 51; when 10 0 = 52");
        test("11: CHANGE to the same JOB is 0", 1, "job 0 0 0; job 0 0 0; change 0 0 1 20; change 0 1 0 30",
            "step 0 0 1; step 0 0 1; step 1 0 1",
            "put 0 0; put 1 1; put 10 2; when 1 0 = 1; when 10 0 = 22; swap 0 1; when 10 0 = 21; when 1 0 = 52");
        for (String none : List.of("MIN", "-1", "2", "6", "11", "30", "80", "MAX")) {
            unchanging("11: -1 no such STEP", Scenes.planned(), "when " + none + " 0 = -1", "when " + none + " 2 = -1");
            unchanging("11: -1 comes before -2 and -3", Scenes.open(), "when " + none + " 3 = -1",
                "when " + none + " 0 = -1");
        }
        unchanging("11: -1 without STEPS", Scenes.idle(), "when 0 0 = -1", "when 0 3 = -1");
        refusedOutside("11: -2 what 0 to 2", Scenes.planned(), "when 0 #", 2, -2);
        refusedOutside("11: -2 comes before -3", Scenes.open(), "when 0 #", 2, -2);
        refusedOutside("11: -2 comes before -3", Scenes.ring(), "when 0 #", 2, -2);
        for (Scene scene : List.of(Scenes.open(), Scenes.ring())) {
            unchanging("11: -3 there is no PLAN", scene, "when 0 0 = -3", "when 0 1 = -3", "when 0 2 = -3",
                "when 10 0 = -3", "when 1 2 = -3");
        }
        slack();
    }

    private static void slack() {
        test("11: SLACK of the only STEP", 1, "job 6 0 0; step 0 0 0; fill 0; when 0 2 = 0; step 0 0 5; fill 0",
            "when 0 2 = 0; when 1 2 = 0");
        test("11: SLACK up to SPAN", 2, "job 0 0 0; job 0 0 0; step 0 0 50; step 1 1 0; fill 0; when 0 2 = 0",
            "when 10 2 = 50");
        String pair = "job 0 0 0; job 9 0 0; step 0 0 3; step 1 0 1; put 0 0; put 10 1; ";
        test("11: SLACK of one that the next one does not wait for", 1, pair + "when 0 2 = 6; when 10 2 = 0");
        test("11: SLACK less CHANGE", 1, pair + "change 0 0 1 2; when 0 2 = 4; change 0 0 1 6; when 0 2 = 0",
            "change 0 0 1 7; when 0 2 = 0");
        test("11: SLACK through others", 3, "job 0 0 0; job 0 0 0; step 0 0 2; step 0 1 3; step 1 2 20; step 1 0 1",
            "put 0 0; put 11 1; put 1 0",
            "put 10 0; when 0 2 = 16; when 1 2 = 16; when 10 2 = 0; when 11 2 = 0; change 0 0 1 10; when 0 2 = 8",
            "when 1 2 = 16");
        test("11: SLACK in its JOB", 2, "job 0 0 0; job 0 0 0; step 0 0 2; step 0 1 3; step 1 0 20; put 0 0",
            "put 1 0; put 10 1; when 0 2 = 0; when 1 2 = 17; when 10 2 = 0");
        test("11: no SLACK by a JOB without STEPS", 1, "job 0 0 0; job 1000 0 0; step 0 0 5; fill 0; when 0 2 = 0");
        test("11: SLACK of the greatest shop", 2, "job 1000 0 0; job 0 0 0; step 0 0 50; step 1 1 0; fill 0",
            "when 10 2 = 1050");
    }

    private static void span() {
        test("12: 0 without STEPS", 1, "span = 0; job 1000 0 0; span = 0");
        test("12: 0 of STEPS of no TIME", 1, "job 0 0 0; step 0 0 0; fill 0; span = 0");
        test("12: with RELEASE", 1, "job 7 0 0; step 0 0 0; fill 0; span = 7; job 1000 0 0; span = 7");
        test("12: the greatest end", 3, "job 0 0 0; job 0 0 0; job 0 0 0; step 0 0 3; step 1 1 9; step 2 2 4",
            "fill 0; span = 9; step 0 2 7; fill 0; span = 11; step 2 0 30; fill 0; span = 34");
        unchanging("12: -3 a STEP is OPEN", Scenes.open(), "span = -3");
        unchanging("12: -3 a RING", Scenes.ring(), "span = -3");
    }

    private static void late() {
        test("13: at DUE nothing, one behind it WEIGHT", 1, "job 0 5 7; step 0 0 5; fill 0; late = 0; job 0 5 7",
            "step 1 0 1; fill 2; late = 7");
        test("13: ahead of DUE it costs nothing", 2, "job 0 900 20; job 0 4 1; step 0 0 3; step 1 1 5; fill 0",
            "late = 1");
        test("13: all JOBS", 2, "job 0 0 2; job 0 0 3; step 0 0 4; step 1 1 5; fill 0; late = 23");
        test("13: RELEASE without STEPS", 1, "job 7 3 5; late = 20; job 3 7 5; late = 20; job 7 7 20; late = 20",
            "job 1000 0 20; late = 20020");
        test("13: RELEASE without STEPS, beside JOBS that have some", 1, "job 0 3 2; job 9 4 3; step 0 0 5; fill 0",
            "late = 19; step 1 0 1; late = NOTHING; fill 0; late = 22");
        test("13: the end of its last STEP", 2, "job 0 10 2; step 0 0 8; step 0 1 5; fill 0; late = 6");
        test("13: 0 without JOBS", 1, "late = 0");
        unchanging("13: NOTHING: no PLAN", Scenes.open(), "late = NOTHING");
        unchanging("13: NOTHING: no PLAN", Scenes.ring(), "late = NOTHING");
        test("13: NOTHING before any ORDER", 1, "job 1000 0 20; step 0 0 0; late = NOTHING; fill 0; late = 20000");
    }

    private static void swapped() {
        Scene scene = Scenes.planned();
        unchanging("14: the SPAN that swap() would bring", scene, "swapped 0 0 = 8", "swapped 1 0 = 9");
        test("14: of the last places", 1, "job 0 0 0; job 0 0 0; job 0 0 0; step 0 0 1; step 1 0 2; step 2 0 3",
            "change 0 2 1 9; fill 0; swapped 0 0 = 6; swapped 0 1 = 15; swapped 0 2 = -1; span = 6");
        refusedOutside("14: -1 no such places", scene, "swapped 0 #", 0, -1);
        refusedOutside("14: -1 no such MACHINE", scene, "swapped # 0", 1, -1);
        refusedOutside("14: -1 of an empty ORDER", Scenes.idle(), "swapped 0 #", -1, -1);
        refusedOutside("14: -1 comes before -3", Scenes.ring(), "swapped 0 #", 0, -1);
        refusedOutside("14: -1 comes before -3", Scenes.ring(), "swapped # 0", 1, -1);
        unchanging("14: -1 comes before -3", Scenes.open(), "swapped 0 0 = -1", "swapped 2 0 = -1", "swapped -1 0 = -1",
            "swapped 1 1 = -1");
        unchanging("14: -3 a STEP is OPEN", Scenes.open(), "swapped 1 0 = -3");
        unchanging("14: -3 a RING now, though none then", Scenes.ring(), "swapped 0 0 = -3", "swapped 1 0 = -3");
        unchanging("14: -3 a RING then", new Scene(1).with("job 0 0 0; step 0 0 1; step 0 0 2; fill 0"),
            "swapped 0 0 = -3");
        unchanging("14: -3 a RING then", Scenes.ring().with("swap 1 0"), "swapped 1 0 = -3");
    }

    private static void better() {
        test("15: -3 without STEPS", 1, "better = -3; job 5 0 0; better = -3; step 0 0 5; better = -3; fill 0",
            "better = -3");
        unchanging("15: -3 there is no PLAN", Scenes.open(), "better = -3");
        unchanging("15: -3 there is no PLAN", Scenes.ring(), "better = -3");
        unchanging("15: -3 none does", Scenes.planned(), "better = -3");
        unchanging("15: -3 a like SPAN is not less",
            new Scene(1).with("job 0 0 0; job 0 0 0; step 0 0 3; step 1 0 3; fill 0"), "better = -3");
        unchanging("15: -3 it would be a RING", new Scene(1).with("job 0 0 0; step 0 0 1; step 0 0 2; fill 0"),
            "better = -3");
        Scene improvable = new Scene(5).with("job 0 0 1; job 0 0 1; step 0 4 1; step 1 4 1; step 1 2 10")
            .with("put 0 0; put 10 1; put 11 0");
        unchanging("15: 100 times the MACHINE", improvable, "better = 400");
        test("15: less by one is less", 1, "job 0 0 0; job 0 0 0; step 0 0 3; step 1 0 3; change 0 0 1 1; put 0 0",
            "put 10 1; better = 0; swap 0 0; better = -3");
        betterOfTwoMachines("5", "5", 0);
        betterOfTwoMachines("5", "6", 100);
        betterOfTwoMachines("6", "5", 0);
        String row = "job 0 0 0; job 0 0 0; job 0 0 0; step 0 0 3; step 1 0 0; step 2 0 2; put 0 0; put 10 1; "
            + "put 20 2; step 2 1 20; put 21 0; ";
        test("15: of like ones the least place", 2, row + "change 0 0 1 9; swapped 0 0 = 25; swapped 0 1 = 25",
            "better = 0");
        test("15: the least SPAN, behind a greater one", 2, row + "change 0 0 1 9; change 0 1 0 1; swapped 0 0 = 26",
            "swapped 0 1 = 25; better = 1");
        test("15: the least SPAN, ahead of a greater one", 2, row + "change 0 0 1 9; change 0 2 1 25",
            "swapped 0 0 = 25; swapped 0 1 = 30; better = 0");
        betterOfCriticalOnes();
    }

    /** One long way through a change on each of two machines; swapping either takes that change out. */
    private static void betterOfTwoMachines(String first, String second, int due) {
        test("15: the least SPAN, of like ones the least MACHINE", 2, "job 0 0 0; job 0 0 0; job 0 0 0; step 0 0 1",
            "step 1 0 1; step 1 1 1; step 2 1 1",
            "put 0 0; put 10 1; put 11 0; put 20 1; change 0 0 1 " + first + "; change 1 1 2 " + second + "",
            "better = " + due);
    }

    private static void betterOfCriticalOnes() {
        test("15: not with a second one that has SLACK", 3, "job 0 0 0; job 0 0 0; job 0 0 0; step 0 0 1",
            "step 1 0 1; step 2 0 1; put 0 0; put 10 1",
            "put 20 2; step 0 2 50; step 1 1 20; put 1 0; put 11 0; change 0 0 1 50; change 0 1 0 50; span = 72",
            "when 20 2 = 19; swapped 0 1 = 51; swapped 0 0 = 102; better = -3");
        test("15: not with a first one that has SLACK", 2, "job 0 0 0; job 5 0 0; job 20 0 0; step 0 0 1",
            "step 1 0 1; step 2 0 1; put 0 0; put 10 1",
            "put 20 2; step 2 1 20; put 21 0; change 0 1 2 50; change 0 2 1 50; span = 77; when 0 2 = 4",
            "swapped 0 0 = 41; swapped 0 1 = 72; better = 1");
    }

    private static void part() {
        test("16: HEAD of the first is RELEASE, TAIL of the last 0", 2, "job 0 0 0; job 1000 0 0; step 0 0 50",
            "step 1 1 50; part 0 0 = 0; part 0 1 = 0; part 10 0 = 1000; part 10 1 = 0");
        test("16: the TIMES before it and behind it", 1, "job 1000 0 0; step 0 0 50; step 0 0 50; step 0 0 50",
            "step 0 0 50; step 0 0 50; step 0 0 50",
            "part 0 0 = 1000; part 0 1 = 250; part 1 0 = 1050; part 1 1 = 200; part 4 0 = 1200; part 4 1 = 50",
            "part 5 0 = 1250; part 5 1 = 0");
        test("16: of its own JOB alone", 1, "job 1 0 0; job 2 0 0; step 0 0 3; step 1 0 4; step 0 0 5; step 1 0 6",
            "part 0 0 = 1; part 0 1 = 5; part 1 0 = 4",
            "part 10 0 = 2; part 10 1 = 6; part 11 0 = 6; part 11 1 = 0; put 11 0; put 0 1; part 0 0 = 1",
            "change 0 1 0 50; part 0 0 = 1; part 0 1 = 5");
        for (String none : List.of("MIN", "-1", "2", "6", "11", "30", "80", "MAX")) {
            unchanging("16: -1 no such STEP", Scenes.planned(), "part " + none + " 0 = -1", "part " + none + " 1 = -1");
            unchanging("16: -1 comes before -2", Scenes.planned(), "part " + none + " 2 = -1",
                "part " + none + " MIN = -1");
        }
        unchanging("16: -1 without STEPS", Scenes.idle(), "part 0 0 = -1", "part 0 2 = -1");
        refusedOutside("16: -2 what 0 to 1", Scenes.planned(), "part 0 #", 1, -2);
        refusedOutside("16: -2 what 0 to 1", Scenes.open(), "part 10 #", 1, -2);
        refusedOutside("16: -2 what 0 to 1", Scenes.ring(), "part 1 #", 1, -2);
    }

    /** Six steps of job 0 and two of job 1, all on machine 0. */
    private static String eightSteps(int time) {
        return ("job 0 0 0; job 0 0 0; " + "step 0 0 #; ".repeat(6) + "step 1 0 #; step 1 0 #; ").replace("#",
            "" + time);
    }

    private static void bound() {
        test("17: 0 without STEPS", 2, "bound 0 = 0; job 1000 0 0; bound 0 = 0; step 0 0 5; bound 0 = 1005",
            "bound 1 = 0");
        test("17: of one STEP", 2, "job 7 0 0; step 0 0 0; bound 0 = 7; step 0 1 50; bound 0 = 57; bound 1 = 57");
        test("17: of 8 STEPS, not of 9", 2, eightSteps(10) + "bound 0 = 80; step 1 0 10; bound 0 = -3; bound 1 = 0",
            "step 1 1 9; bound 0 = -3; bound 1 = 39");
        test("17: of 8 STEPS of no TIME", 1, eightSteps(0) + "bound 0 = 0; step 1 0 0; bound 0 = -3");
        unchanging("17: -3 it has more than 8 STEPS", new Scene(2).with(eightSteps(10) + "step 1 0 10; fill 0"),
            "bound 0 = -3");
        test("17: of eight JOBS", 1, boundOfEightJobs());
        refusedOutside("17: -1 no such MACHINE", Scenes.planned(), "bound #", 1, -1);
        refusedOutside("17: -1 no such MACHINE", Scenes.empty(), "bound #", 1, -1);
        test("17: begun not before its HEAD", 2, "job 0 0 0; job 1 0 0; step 0 0 10; step 1 0 1; bound 0 = 11",
            "step 1 1 20; bound 0 = 22; bound 1 = 22");
        test("17: it may wait for a later one", 2, "job 0 0 0; job 3 0 0; step 0 0 10; step 1 0 1; step 1 1 12",
            "bound 0 = 16; step 1 1 6; bound 0 = 22");
        test("17: ended by L less its TAIL", 2, "job 0 0 0; job 0 0 0; step 0 0 4; step 1 0 4; bound 0 = 8",
            "step 0 1 3; bound 0 = 8; step 1 1 3; bound 0 = 11");
        test("17: one at a time", 1, "job 5 0 0; job 5 0 0; step 0 0 50; step 1 0 50; bound 0 = 105");
        test("17: CHANGE does not count", 1, "job 0 0 0; job 0 0 0; change 0 0 1 50; change 0 1 0 50; step 0 0 3",
            "step 1 0 4; bound 0 = 7; fill 0; bound 0 = 7");
        test("17: CHANGE does not count, where the order matters", 2, "job 0 0 0; job 1 0 0; change 0 0 1 50",
            "change 0 1 0 50",
            "step 0 0 10; step 1 0 1; step 1 1 20; bound 0 = 22");
        test("17: OPEN STEPS and those in a RING count too", 1, "job 0 0 0; step 0 0 3; step 0 0 4; bound 0 = 7",
            "put 1 0; bound 0 = 7; put 0 1",
            "state = 2; bound 0 = 7; step 0 0 9; bound 0 = 16; job 2 0 0; bound 0 = 16; step 1 0 20; bound 0 = 36");
        boundOfSomeOrder();
    }

    private static void boundOfSomeOrder() {
        test("17: each is begun once, not again and again", 2, "job 0 0 0; job 5 0 0; step 0 0 10; step 1 0 1",
            "step 0 1 10; step 1 1 14",
            "bound 0 = 25; bound 1 = 30; low = 30");
        test("17: one of no TIME comes ahead or behind, not within", 2, "job 0 0 0; job 5 0 0; step 0 0 10",
            "step 1 0 0; step 0 1 10; step 1 1 15; bound 0 = 25");
        test("17: in some order, and be it the second of a JOB ahead of its first", 2, "job 0 0 0; job 0 0 0",
            "job 11 0 0; job 30 0 0; step 0 0 10; step 0 0 1; step 0 1 20; step 1 0 10; step 1 1 41; step 2 0 9",
            "step 2 1 31; step 3 0 10; step 3 1 11; part 0 0 = 0; part 0 1 = 21; part 1 0 = 10; part 1 1 = 20",
            "bound 0 = 51");
        test("17: in some order, the best of all", 2, "job 5 0 0; job 4 0 0; job 8 0 0; step 0 0 5; step 1 0 6",
            "step 2 0 6; step 0 1 9; step 1 1 7; step 2 1 11; bound 0 = 29");
    }

    /** Each job's step waits for the one before: any other order is worse. */
    private static String boundOfEightJobs() {
        StringBuilder calls = new StringBuilder();
        for (int job = 0; job < 8; job++) {
            calls.append("job ").append(1000 - 50 * job).append(" 0 0; step ").append(job).append(" 0 50; ");
        }
        return calls + "bound 0 = 1050; step 7 0 50; bound 0 = -3";
    }

    private static void low() {
        test("18: 0 without STEPS", 1, "low = 0; job 1000 0 0; low = 0; step 0 0 0; low = 1000");
        test("18: RELEASE and all TIMES of a JOB", 2, "job 5 0 0; step 0 0 8; step 0 1 9; low = 22");
        test("18: THE BOUND of a MACHINE", 2, "job 5 0 0; job 4 0 0; step 0 0 8; step 0 1 9; step 1 1 20; low = 33",
            "bound 1 = 33; bound 0 = 22");
        test("18: of a MACHINE of 8 STEPS, not of 9", 1, eightSteps(10) + "low = 80; step 1 0 10; low = 60");
        test("18: though another MACHINE has more", 2, eightSteps(1) + "step 1 0 1; low = 6; job 0 0 0; step 2 1 30",
            "low = 30; step 1 1 30; low = 60");
        test("18: a JOB of one STEP counts, without THE BOUND of its MACHINE", 1, eightSteps(10) + "job 1000 0 0",
            "step 2 0 5",
            "bound 0 = -3; low = 1005");
        test("18: a JOB without STEPS does not count", 1, "job 3 0 0; job 1000 0 0; step 0 0 1; low = 4");
        test("18: of the last JOB and MACHINE", 5, "job 0 0 0; job 9 0 0; step 0 0 1; step 1 4 5; low = 14",
            "job 14 0 0; step 2 4 7; low = 21; job 0 0 0; step 3 4 2; low = 21; step 3 4 9; low = 23");
        test("18: with or without THE PLAN", 1, "job 0 0 0; step 0 0 3; step 0 0 4; low = 7; fill 0; low = 7",
            "swap 0 0; state = 2; low = 7");
        test("18: CHANGE does not count", 1, "job 0 0 0; job 0 0 0; change 0 0 1 50; change 0 1 0 50; step 0 0 3",
            "step 1 0 4; fill 0; span = 57; low = 7");
    }

    private static void share() {
        test("19: 1000 where SPAN is LOW", 1, "job 1 0 0; step 0 0 0; fill 0; share = 1000; job 0 0 0; step 1 0 3",
            "fill 3; span = 3; low = 3; share = 1000");
        test("19: cut", 1, "job 0 0 0; job 0 0 0; change 0 0 1 1; change 0 1 0 1; step 0 0 3; step 1 0 4; fill 0",
            "span = 8; low = 7; share = 1142");
        test("19: cut, where CHANGE counts", 1,
            "job 0 0 0; job 0 0 0; change 0 0 1 50; step 0 0 50; step 1 0 1; put 0 0",
            "put 10 1; span = 101; low = 51; share = 1980");
        test("19: ArithmeticException: LOW is 0", 1, "share = ArithmeticException; job 1000 0 0",
            "share = ArithmeticException",
            "job 0 0 0; step 1 0 0; share = NOTHING; fill 0; share = ArithmeticException; state = 0");
        test("19: ArithmeticException though SPAN is above 0", 1, "job 0 0 0; job 0 0 0; step 0 0 0; step 1 0 0",
            "change 0 0 1 5; fill 0; span = 5; low = 0",
            "share = ArithmeticException; share = ArithmeticException; span = 5");
        test("19: NOTHING comes first", 1, "job 0 0 0; step 0 0 0; low = 0; share = NOTHING; step 0 0 0; put 1 0",
            "put 0 1; state = 2; share = NOTHING");
        unchanging("19: NOTHING: no PLAN", Scenes.open(), "share = NOTHING");
        unchanging("19: NOTHING: no PLAN", Scenes.ring(), "share = NOTHING");
        unchanging("19: ArithmeticException changes nothing", Scenes.idle(), "share = ArithmeticException");
        unchanging("19: ArithmeticException changes nothing", Scenes.empty(), "share = ArithmeticException");
    }

    public static void main(String[] args) {
        newObject();
        job();
        step();
        change();
        put();
        take();
        swap();
        at();
        fill();
        state();
        when();
        span();
        late();
        swapped();
        better();
        part();
        bound();
        low();
        share();
        REPORT.end();
    }
}
