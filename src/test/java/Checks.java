/** Counts the answers that are due and those that are not; tells the latter. */
final class Checks {
    private int passed = 0;
    private int failed = 0;

    void due(String what, long got, long want) {
        note(got == want, what, String.valueOf(got), String.valueOf(want));
    }

    /** Compares by bits, so that the two zeros differ; any NaN is like another. */
    void dueD(String what, double got, double want) {
        boolean same = Double.doubleToLongBits(got) == Double.doubleToLongBits(want);
        note(same, what, String.valueOf(got), String.valueOf(want));
    }

    void dueText(String what, String got, String want) {
        note(got.equals(want), what, got, want);
    }

    private void note(boolean right, String what, String got, String want) {
        if (right) {
            passed++;
            return;
        }
        failed++;
        if (failed <= 40) {
            System.out.println(what + " answered " + got + ", due is " + want);
        }
    }

    int made() {
        return passed + failed;
    }

    boolean anyFailed() {
        return failed > 0;
    }

    void end(String name) {
        System.out.println(name + ": " + passed + " passed, " + failed + " failed");
        if (failed > 0) {
            System.exit(1);
        }
    }
}
