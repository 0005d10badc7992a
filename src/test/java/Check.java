import java.util.NoSuchElementException;
import java.util.function.IntSupplier;

/** Compares answers with those that are due, and tells the wrong ones. */
final class Check {
    private static int wrong = 0;
    private static int sentences = 0;
    private static String about = "";

    private Check() {
    }

    /** Runs the test of one sentence of the document; what it finds wrong is told with the sentence. */
    static void sentence(String text, Runnable test) {
        sentences++;
        about = "\"" + text + "\" ";
        try {
            test.run();
        } catch (RuntimeException e) {
            tell("threw " + e);
        }
        about = "";
    }

    static void due(String what, long got, long want) {
        if (got != want) {
            tell(what + " answered " + got + ", due is " + want);
        }
    }

    static void due(String what, boolean got, boolean want) {
        due(what, got ? 1 : 0, want ? 1 : 0);
    }

    static void dueThrow(String what, IntSupplier call) {
        try {
            tell(what + " answered " + call.getAsInt() + ", due is NoSuchElementException");
        } catch (NoSuchElementException e) {
            return;
        }
    }

    static int wrongs() {
        return wrong;
    }

    static void finish(String test) {
        String many = sentences == 0 ? "" : sentences + " sentences, ";
        System.out.println(test + ": " + many + (wrong == 0 ? "all answers are as due" : wrong + " answers are not as due"));
        if (wrong != 0) {
            System.exit(1);
        }
    }

    private static void tell(String text) {
        wrong++;
        System.out.println(about + text);
    }
}
