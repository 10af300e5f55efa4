/** Runs tests, each named by the sentence that it tests, and prints answers that are not as due. */
final class Checks {
    private String sentence = "";
    private int sentences = 0;
    private int made = 0;
    private int wrong = 0;

    /** A test that checks nothing, or in which a call throws, counts as wrong. */
    void sentence(String words, Runnable test) {
        sentence = words;
        sentences++;
        int madeBefore = made;
        try {
            test.run();
        } catch (RuntimeException thrown) {
            tellWrong("a call threw " + thrown);
        }
        if (made == madeBefore) {
            tellWrong("nothing was checked");
        }
    }

    void due(String what, int got, int want) {
        made++;
        if (got != want) {
            tellWrong(what + " answered " + got + ", due is " + want);
        }
    }

    void holds(String what, boolean isSo) {
        made++;
        if (!isSo) {
            tellWrong(what + " does not hold");
        }
    }

    void end() {
        System.out.println(sentences + " sentences, " + made + " checks, " + wrong + " wrong");
        if (wrong != 0 || made == 0) {
            System.exit(1);
        }
    }

    private void tellWrong(String what) {
        wrong++;
        System.out.println("\"" + sentence + "\": " + what);
    }
}
