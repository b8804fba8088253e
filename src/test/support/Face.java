/** The calls of the document, so that the class and the model can be called in the same words. */
public interface Face {
    int job(int release, int due, int weight);

    int step(int job, int machine, int time);

    int change(int machine, int a, int b, int t);

    int put(int step, int place);

    int take(int step);

    int swap(int machine, int place);

    int at(int machine, int place);

    int fill(int rule);

    int state();

    int when(int step, int what);

    int span();

    long late();

    int swapped(int machine, int place);

    int better();

    int part(int step, int what);

    int bound(int machine);

    int low();

    long share();
}
