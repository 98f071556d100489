/**
 * Counts the answers that are not the due ones; a test ends with exit code 1 if there was one. Each
 * answer belongs to the sentence of the document that was told last, and each sentence has one.
 */
final class Due {
    private static int wrong = 0;
    private static int asked = 0;
    private static int askedBefore = 0;
    private static int sentences = 0;
    private static String sentence = "";

    private Due() {
    }

    /** What comes next tests this sentence of the document, or this part of one. */
    static void sentence(String text) {
        endSentence();
        sentence = text;
        sentences++;
        askedBefore = asked;
    }

    private static void endSentence() {
        if (sentences > 0 && asked == askedBefore) {
            tell("nothing was asked");
        }
    }

    static void is(String what, long got, long want) {
        asked++;
        if (got != want) {
            tell(what + " answered " + got + ", due is " + want);
        }
    }

    static void is(String what, boolean got, boolean want) {
        asked++;
        if (got != want) {
            tell(what + " answered " + got + ", due is " + want);
        }
    }

    static void is(String what, String got, String want) {
        asked++;
        if (!got.equals(want)) {
            tell(what + " answered\n  " + got + ", due is\n  " + want);
        }
    }

    /** The call throws IllegalArgumentException and leaves all that can be seen of x as it was. */
    static void argument(String what, Field x, Runnable call) {
        isThrown(what, x, call, IllegalArgumentException.class);
    }

    /** The call throws IllegalStateException and leaves all that can be seen of x as it was. */
    static void state(String what, Field x, Runnable call) {
        isThrown(what, x, call, IllegalStateException.class);
    }

    private static void isThrown(String what, Field x, Runnable call, Class<?> want) {
        String before = Racks.seen(x);
        is(what + " throws", thrown(call), want.getName());
        is(what + " changes nothing", Racks.seen(x), before);
    }

    static String thrown(Runnable call) {
        try {
            call.run();
        } catch (RuntimeException e) {
            return e.getClass().getName();
        }
        return "nothing";
    }

    private static void tell(String text) {
        wrong++;
        System.out.println("'" + sentence + "': " + text);
    }

    static void end() {
        endSentence();
        System.out.println(sentences + " sentences, " + asked + " answers, " + wrong + " not as due");
        if (wrong != 0) {
            System.exit(1);
        }
    }
}
