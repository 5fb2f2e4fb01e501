/** Counts the answers of a test; prints those that are not due, and ends with exit code 1 if there was one. */
final class Check {
    private final String name;
    private int asked = 0, wrong = 0;

    Check(String name) {
        this.name = name;
    }

    void due(String promise, String call, long got, long want) {
        asked++;
        if (got == want) return;
        wrong++;
        System.out.println(name + ", " + promise + ": " + call + " answered " + got + ", due is " + want);
    }

    int failures() {
        return wrong;
    }

    void end() {
        System.out.println(name + ": " + asked + " answers, " + wrong + " not as due");
        if (wrong != 0) System.exit(1);
    }
}
