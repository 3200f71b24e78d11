/** Counts the answers that are not as due, and prints each of them. */
final class Due {
    private int checks = 0;
    private int wrong = 0;
    private int checksBefore = 0;
    private String sentence = "";

    /** Names the sentence of the document that the checks from here on belong to. */
    void about(String next) {
        endSentence();
        sentence = next + ": ";
        checksBefore = checks;
    }

    void due(String call, long want, long got) {
        checks++;
        if (got != want) {
            wrong++;
            System.out.println(sentence + call + " answered " + got + ", due is " + want);
        }
    }

    void due(String call, boolean want, boolean got) {
        due(call, want ? 1 : 0, got ? 1 : 0);
    }

    void due(String call, String want, String got) {
        checks++;
        if (!got.equals(want)) {
            wrong++;
            System.out.println(sentence + call + "\n  gave   " + got + "\n  due is " + want);
        }
    }

    int wrong() {
        return wrong;
    }

    void end() {
        endSentence();
        System.out.println(checks + " checks, " + wrong + " wrong");
        if (wrong != 0 || checks == 0) {
            System.exit(1);
        }
    }

    // A loop that never runs would let a sentence pass without having been looked at.
    private void endSentence() {
        if (!sentence.isEmpty() && checks == checksBefore) {
            wrong++;
            System.out.println(sentence + "nothing was checked");
        }
    }
}
