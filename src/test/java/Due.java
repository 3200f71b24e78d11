/** Counts the answers that are not as due, and prints each of them. */
final class Due {
    private int checks = 0;
    private int wrong = 0;

    void due(String call, long want, long got) {
        checks++;
        if (got != want) {
            wrong++;
            System.out.println(call + " answered " + got + ", due is " + want);
        }
    }

    void due(String call, boolean want, boolean got) {
        due(call, want ? 1 : 0, got ? 1 : 0);
    }

    int wrong() {
        return wrong;
    }

    void end() {
        System.out.println(checks + " checks, " + wrong + " wrong");
        if (wrong != 0 || checks == 0) {
            System.exit(1);
        }
    }
}
