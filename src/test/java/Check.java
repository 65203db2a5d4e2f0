import java.util.Arrays;

/** Counts the answers that are not due, and ends the program with 1 if there was one. */
final class Check {
    private final String name;
    private String sentence = "";
    private int calls;
    private int wrong;

    Check(String name) {
        this.name = name;
    }

    /** The promise and its sentence that the checks behind this are of. */
    void of(String promiseAndSentence) {
        sentence = promiseAndSentence + ": ";
    }

    void due(String what, long got, long want) {
        calls++;
        if (got != want) {
            report(what, String.valueOf(got), String.valueOf(want));
        }
    }

    void dueAll(String what, int[] got, int... want) {
        calls++;
        if (!Arrays.equals(got, want)) {
            report(what, Arrays.toString(got), Arrays.toString(want));
        }
    }

    void holds(String what, boolean fact) {
        due(what, fact ? 1 : 0, 1);
    }

    void end() {
        System.out.println(name + ": " + calls + " checks, " + wrong + " wrong");
        if (wrong != 0) {
            System.exit(1);
        }
    }

    private void report(String what, String got, String want) {
        wrong++;
        System.out.println(name + ": " + sentence + what + " answered " + got + ", due is " + want);
    }
}
