import java.util.Set;
import java.util.TreeSet;

/** Counts and prints answers that are not the ones that are due. */
final class Check {
    private final Set<Integer> promises = new TreeSet<>();
    private int asked = 0;
    private int wrong = 0;

    void due(String call, long got, long want) {
        asked++;
        if (got != want) {
            wrong++;
            System.out.println(call + " answered " + got + ", due is " + want);
        }
    }

    void so(String what, boolean is) {
        due(what, is ? 1 : 0, 1);
    }

    /** A test that begins with the number of its promise. */
    void begins(String test) {
        promises.add(Integer.valueOf(test.substring(0, test.indexOf(' '))));
    }

    /** Each of these promises must have been named by a test. */
    void named(int from, int to) {
        for (int promise = from; promise <= to; promise++) so("a test names promise " + promise, promises.contains(promise));
    }

    boolean isAllRight() {
        return wrong == 0;
    }

    /** Ends the program: exit code 1, if an answer was wrong or nothing was asked. */
    void end(String test) {
        System.out.println(test + ": " + asked + " answers looked at, " + wrong + " wrong");
        System.exit(wrong == 0 && asked > 0 ? 0 : 1);
    }
}
