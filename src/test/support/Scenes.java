import java.util.LinkedHashMap;
import java.util.Map;

/** The shops that several tests begin with. */
public final class Scenes {
    private Scenes() {
    }

    public static Map<String, Scene> all() {
        Map<String, Scene> scenes = new LinkedHashMap<>();
        scenes.put("empty", empty());
        scenes.put("idle", idle());
        scenes.put("planned", planned());
        scenes.put("open", open());
        scenes.put("ring", ring());
        scenes.put("eight jobs", eightJobs());
        scenes.put("six steps", sixSteps());
        scenes.put("full", full());
        scenes.put("full, one open", full().with("take 75"));
        scenes.put("full, a ring", full().with("take 75; put 75 0"));
        scenes.put("full, one machine", fullOfOneMachine());
        return scenes;
    }

    public static Scene empty() {
        return new Scene(2);
    }

    /** Jobs without steps. */
    public static Scene idle() {
        return new Scene(2).with("job 4 1 2; job 0 9 1; job 7 7 3; change 1 2 0 8");
    }

    /** 0: 0-3, 10: 5-7 on machine 0; 20: 1-5, 1: 6-8 on machine 1. */
    public static Scene planned() {
        return new Scene(2).with("job 0 5 3; job 0 7 4; job 1 4 2; step 0 0 3; step 0 1 2; step 1 0 2; step 2 1 4")
            .with("change 0 0 1 2; change 1 2 0 1; put 0 0; put 10 1; put 20 0; put 1 1");
    }

    public static Scene open() {
        return planned().with("take 10");
    }

    public static Scene ring() {
        return new Scene(2).with("job 0 0 1; job 0 0 1; step 0 0 1; step 0 1 2; step 1 1 3; step 1 0 4")
            .with("put 11 0; put 0 1; put 1 0; put 10 1");
    }

    public static Scene eightJobs() {
        Scene scene = new Scene(2);
        for (int job = 0; job < 8; job++) {
            scene.with("job " + job + " " + (9 - job) + " " + (job + 1));
        }
        return scene.with("step 7 1 5; step 0 1 2; fill 0");
    }

    public static Scene sixSteps() {
        return new Scene(2).with("job 2 3 4; job 1 2 1; step 0 0 1; step 0 1 2; step 0 0 3; step 0 1 4; step 0 0 5")
            .with("step 0 1 6; step 1 1 2; fill 0");
    }

    /** All jobs and steps that may be; 8 steps on machine 0, 10 on each other one. */
    public static Scene full() {
        Scene scene = new Scene(5);
        for (int job = 0; job < 8; job++) {
            scene.with("job " + 3 * job + " " + 7 * (8 - job) + " " + (job + 1));
            for (int place = 0; place < 6; place++) {
                int machine = place == 0 ? 0 : 1 + (job + place) % 4;
                scene.with("step " + job + " " + machine + " " + (7 * job + 5 * place) % 13);
            }
        }
        for (int k = 0; k < 20; k++) {
            scene.with("change " + k % 5 + " " + k % 8 + " " + (3 * k + 1) % 8 + " " + k);
        }
        return orderedByPlaces(scene);
    }

    /** Every bound is reached: times, changes, dates and weights are the greatest that may be. */
    public static Scene fullOfOneMachine() {
        Scene scene = new Scene(1);
        for (int job = 0; job < 8; job++) {
            scene.with("job 1000 0 20");
            for (int place = 0; place < 6; place++) {
                scene.with("step " + job + " 0 50");
            }
        }
        for (int a = 0; a < 8; a++) {
            for (int b = 0; b < 8; b++) {
                if (b == (a + 1) % 8) {
                    scene.with("change 0 " + a + " " + b + " 50");
                }
            }
        }
        return orderedByPlaces(scene);
    }

    /** First all first steps of the jobs, then all second ones, and so on: this is no ring. */
    private static Scene orderedByPlaces(Scene scene) {
        Model model = scene.model();
        for (int place = 0; place < 6; place++) {
            for (int job = 0; job < 8; job++) {
                int step = 10 * job + place;
                int size = model.orderOf(step).size();
                scene.with("put " + step + " " + size);
                model.put(step, size);
            }
        }
        return scene;
    }
}
