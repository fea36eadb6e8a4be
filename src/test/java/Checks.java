/** Counts and prints the answers that are not the ones due. */
final class Checks {
    private String at = "";
    private int wrong = 0;
    private int seen = 0;

    /** What is checked from now on belongs to this case. */
    void begin(String name) {
        at = name + ": ";
    }

    int seen() {
        return seen;
    }

    void due(String what, long want, long got) {
        seen++;
        if (got != want) {
            wrong++;
            if (wrong <= 50) {
                System.out.println(at + what + " answered " + got + ", due is " + want);
            }
        }
    }

    void due(String what, boolean want, boolean got) {
        due(what, want ? 1L : 0L, got ? 1L : 0L);
    }

    void holds(String what, boolean got) {
        due(what, true, got);
    }

    void end() {
        System.out.println(wrong == 0 ? seen + " checks as due" : wrong + " of " + seen + " checks not as due");
        if (wrong != 0) {
            System.exit(1);
        }
    }
}
