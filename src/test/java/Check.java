import java.util.Set;
import java.util.TreeSet;

/** Counts the answers of a test; prints those that are not due, and ends with exit code 1 if there was one. */
final class Check {
    private final String name;
    private final Set<Integer> promises = new TreeSet<>();
    private int asked = 0, wrong = 0;

    Check(String name) {
        this.name = name;
    }

    void due(String promise, String call, long got, long want) {
        asked++;
        if (got == want) return;
        wrong++;
        System.out.println(name + ", " + promise + ": " + call + " answered " + got + ", due is " + want);
    }

    void due(int promise, String call, long got, long want) {
        promises.add(promise);
        due("promise " + promise, call, got, want);
    }

    /** Fails if one of these promises was named by no answer of this test. */
    void covers(int first, int last) {
        for (int p = first; p <= last; p++) due("promise " + p, "the test itself: answers that name it", promises.contains(p) ? 1 : 0, 1);
    }

    int failures() {
        return wrong;
    }

    void end() {
        System.out.println(name + ": " + asked + " answers, " + wrong + " not as due");
        if (wrong != 0) System.exit(1);
    }
}
