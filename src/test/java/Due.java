/** Counts and prints the calls whose answer is not the one that is due. */
final class Due {
    private String sentence = "";
    private int wrong = 0;
    private int seen = 0;
    private int seenUnder = 0;

    /** What is looked at from here on tests this sentence of the document. */
    void under(String next) {
        closeSentence();
        sentence = "[" + next + "] ";
    }

    void is(String call, long got, long want) {
        seen++;
        seenUnder++;
        if (got != want) {
            wrong++;
            System.out.println(sentence + call + " answered " + got + ", due is " + want);
        }
    }

    void is(String call, boolean got, boolean want) {
        is(call, got ? 1L : 0L, want ? 1L : 0L);
    }

    /** To be called last: a test that looked at nothing fails too. */
    void end() {
        closeSentence();
        if (wrong != 0 || seen == 0) {
            System.out.println(wrong + " of " + seen + " answers are not as due");
            System.exit(1);
        }
    }

    private void closeSentence() {
        if (!sentence.isEmpty() && seenUnder == 0) {
            wrong++;
            System.out.println(sentence + "was not looked at");
        }
        seenUnder = 0;
    }
}
