/** Counts and prints the answers that are not the due ones. */
final class Check {
    private String sentence = "";
    private int asked = 0;
    private int askedBefore = 0;
    private int wrong = 0;

    /** What follows tests this sentence of the document; a wrong answer is printed with it. */
    void sentence(String text) {
        endSentence();
        sentence = "[" + text + "] ";
    }

    void due(String call, long got, long want) {
        asked++;
        if (got != want) {
            wrong++;
            System.out.println(sentence + call + " answered " + got + ", due is " + want);
        }
    }

    /** A part of a test: what throws in it counts as wrong, and the other parts still run. */
    void part(Runnable test) {
        try {
            test.run();
        } catch (RuntimeException thrown) {
            wrong++;
            System.out.println(sentence + "threw " + thrown);
        }
    }

    void end() {
        endSentence();
        System.out.println(asked + " answers looked at, " + wrong + " not as due");
        if (wrong != 0) {
            System.exit(1);
        }
    }

    /** A sentence that nothing was asked for has not been tested. */
    private void endSentence() {
        if (!sentence.isEmpty() && asked == askedBefore) {
            wrong++;
            System.out.println(sentence + "no answer was looked at");
        }
        askedBefore = asked;
    }
}
