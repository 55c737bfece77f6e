/** Counts and prints the answers that are not the ones due; shared by the tests beside it. */
final class Due {
    private int looked = 0;
    private int wrong = 0;

    void due(String call, long got, long want) {
        looked++;
        if (got != want) {
            wrong++;
            System.out.println(call + " answered " + got + ", due is " + want);
        }
    }

    void due(String call, boolean got, boolean want) {
        due(call, got ? 1L : 0L, want ? 1L : 0L);
    }

    void end() {
        System.out.println(looked + " answers, " + wrong + " not as due");
        // A test that looked at nothing has shown nothing.
        if (wrong != 0 || looked == 0) {
            System.exit(1);
        }
    }
}
