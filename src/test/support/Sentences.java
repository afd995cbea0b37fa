/** Counts what is not as due, and tells with it the sentence of the document that it breaks. */
final class Sentences {
    private static String sentence = "";
    private static int tested = 0;
    private static int wrong = 0;

    private Sentences() { }

    /** Runs the test of one sentence; one that ends with an exception must not keep the others from running. */
    static void holds(String text, Runnable test) {
        sentence = text;
        tested++;
        try {
            test.run();
        } catch (RuntimeException thrown) {
            fault("a call has thrown " + thrown);
        }
    }

    static void fault(String what) {
        wrong++;
        System.out.println("\"" + sentence + "\": " + what);
    }

    static void end() {
        System.out.println(wrong == 0 ? tested + " sentences hold" : wrong + " answers are not as due");
        if (wrong != 0) {
            System.exit(1);
        }
    }
}
