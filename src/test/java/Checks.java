import java.util.Objects;

/** Counts what is as it is due, and tells what is not, with the sentence of the document that asks for it. */
final class Checks {
    interface Call {
        Object answer();
    }

    private static final int MOST_TOLD = 30;

    private static String sentence = "";
    private static int passed = 0;
    private static int failed = 0;

    private Checks() {
    }

    /** What is checked from now on is checked for this sentence. */
    static void underSentence(String named) {
        sentence = named;
    }

    static void due(String what, Object want, Object got) {
        if (Objects.equals(want, got)) {
            passed++;
            return;
        }
        failed++;
        if (failed <= MOST_TOLD) {
            System.out.println((sentence.isEmpty() ? "" : sentence + "\n    ") + what + ": answered " + got
                    + ", due is " + want);
        }
    }

    /** The very class counts: an exception of the machine is a subclass of one that the document names. */
    static void fails(String what, Class<? extends RuntimeException> want, Call call) {
        due(what, "throws." + want.getSimpleName(), outcome(call));
    }

    static String outcome(Call call) {
        try {
            return String.valueOf(call.answer());
        } catch (RuntimeException e) {
            return "throws." + e.getClass().getSimpleName();
        }
    }

    static void finish(String test) {
        System.out.println(test + ": " + passed + " passed, " + failed + " failed");
        if (failed > 0) {
            System.exit(1);
        }
    }
}
