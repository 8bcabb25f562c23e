/** Counts the answers of one test, and tells those that are not as due. */
final class Due {
    private final String test;
    private String sentence = "";
    private int asked = 0;
    private int askedAhead = 0;
    private int wrong = 0;

    Due(String test) {
        this.test = test;
    }

    /** Runs tests one by one: one that throws is wrong, and the others are run nonetheless. */
    void each(Runnable... tests) {
        for (Runnable test : tests) {
            try {
                test.run();
            } catch (RuntimeException thrown) {
                tell("a call", thrown.toString(), "an answer");
            }
        }
    }

    /** What is asked from here on tests this sentence of the document, which wants an answer at least. */
    void sentence(String words) {
        endSentence();
        sentence = words;
        askedAhead = asked;
    }

    private void endSentence() {
        if (!sentence.isEmpty() && asked == askedAhead) {
            wrong++;
            System.out.println(test + " [" + sentence + "]: nothing was asked");
        }
    }

    void is(String call, long got, long want) {
        asked++;
        if (got != want) {
            tell(call, String.valueOf(got), String.valueOf(want));
        }
    }

    void same(String what, String got, String want) {
        asked++;
        if (!got.equals(want)) {
            tell(what, got, want);
        }
    }

    private void tell(String call, String got, String want) {
        wrong++;
        String of = sentence.isEmpty() ? "" : " [" + sentence + "]";
        System.out.println(test + of + ": " + call + " answered " + got + ", due is " + want);
    }

    void holds(String what, boolean so) {
        is(what, so ? 1 : 0, 1);
    }

    boolean allRight() {
        return wrong == 0;
    }

    void finish() {
        endSentence();
        System.out.println(test + ": " + asked + " answers, " + wrong + " not as due");
        if (wrong != 0 || asked == 0) {
            System.exit(1);
        }
    }
}
