/** Counts what a test was due and did not get. */
final class Due {
    /** A call whose answer or exception is looked at; a boolean counts 1 or 0. */
    interface Call {
        long answer();
    }

    private int wrong = 0;
    private int looked = 0;
    private String sentence = "";
    private int lookedBefore = 0;

    /** Names the document's sentence that what follows is about; each one named must be looked at. */
    void about(String words) {
        endSentence();
        sentence = words;
        lookedBefore = looked;
    }

    private void endSentence() {
        if (!sentence.isEmpty() && looked == lookedBefore) {
            fault("nothing was looked at");
        }
    }

    private void fault(String what) {
        wrong++;
        System.out.println((sentence.isEmpty() ? "" : "'" + sentence + "': ") + what);
    }

    void is(String what, long got, long want) {
        looked++;
        if (got != want) {
            fault(what + " answered " + got + ", due is " + want);
        }
    }

    void is(String what, boolean got, boolean want) {
        is(what, got ? 1L : 0L, want ? 1L : 0L);
    }

    void same(String what, String got, String want) {
        looked++;
        if (!got.equals(want)) {
            fault(what + ": " + got + ", due is " + want);
        }
    }

    /** The call must throw just this class, not one below it. */
    void refuses(String what, Class<? extends RuntimeException> want, Call call) {
        looked++;
        String got;
        try {
            got = "answered " + call.answer();
        } catch (RuntimeException e) {
            if (e.getClass() == want) {
                return;
            }
            got = "threw " + e.getClass().getName();
        }
        fault(what + " " + got + ", due is " + want.getName());
    }

    /** Ends the test's program, with exit code 1 if anything was wrong. */
    void end() {
        endSentence();
        System.out.println(looked + " looked at, " + wrong + " wrong");
        if (wrong != 0 || looked == 0) {
            System.exit(1);
        }
    }
}
