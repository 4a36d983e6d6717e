import java.util.function.LongSupplier;

/** Counts the answers that are not the ones that are due. */
final class Due {
    private String sentence = "";
    private int wrong;

    /** What a call answers, as a text: a number, or the name of the exception behind throws. */
    static String answerOf(LongSupplier call) {
        try {
            return Long.toString(call.getAsLong());
        } catch (RuntimeException thrown) {
            return "throws." + thrown.getClass().getSimpleName();
        }
    }

    /** Runs the test of one sentence of the document; what is wrong there is told with it. */
    void under(String words, Runnable test) {
        sentence = "\"" + words + "\" ";
        try {
            test.run();
        } catch (RuntimeException thrown) {
            compare("the test", "an end", thrown.toString());
        }
        sentence = "";
    }

    void answers(String what, long due, LongSupplier call) {
        compare(what, Long.toString(due), answerOf(call));
    }

    void refuses(String what, Class<? extends RuntimeException> due, LongSupplier call) {
        compare(what, "throws." + due.getSimpleName(), answerOf(call));
    }

    void compare(String what, String due, String got) {
        if (!got.equals(due)) {
            wrong++;
            System.out.println(sentence + what + " answered " + got + ", due is " + due);
        }
    }

    boolean hasWrong() {
        return wrong > 0;
    }

    void finish() {
        System.out.println(wrong == 0 ? "all answers are as due" : wrong + " answers are not as due");
        System.exit(wrong == 0 ? 0 : 1);
    }
}
