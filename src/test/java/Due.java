/** Counts the answers that are not the due ones; a test ends with exit code 1 if there was one. */
final class Due {
    private static int wrong = 0;
    private static int asked = 0;

    private Due() {
    }

    interface Call {
        void run();
    }

    static void is(String what, long got, long want) {
        asked++;
        if (got != want) {
            tell(what + " answered " + got + ", due is " + want);
        }
    }

    static void is(String what, boolean got, boolean want) {
        asked++;
        if (got != want) {
            tell(what + " answered " + got + ", due is " + want);
        }
    }

    static void is(String what, String got, String want) {
        asked++;
        if (!got.equals(want)) {
            tell(what + " answered\n  " + got + ", due is\n  " + want);
        }
    }

    /** The call throws IllegalArgumentException and leaves all that can be seen of x as it was. */
    static void argument(String what, StripeField x, Call call) {
        isThrown(what, x, call, IllegalArgumentException.class);
    }

    /** The call throws IllegalStateException and leaves all that can be seen of x as it was. */
    static void state(String what, StripeField x, Call call) {
        isThrown(what, x, call, IllegalStateException.class);
    }

    private static void isThrown(String what, StripeField x, Call call, Class<?> want) {
        String before = Racks.seen(x);
        String got = "nothing";
        try {
            call.run();
        } catch (RuntimeException e) {
            got = e.getClass().getName();
        }
        is(what + " throws", got, want.getName());
        is(what + " changes nothing", Racks.seen(x), before);
    }

    private static void tell(String text) {
        wrong++;
        System.out.println(text);
    }

    static void end() {
        System.out.println(wrong == 0 ? asked + " answers are as due" : wrong + " of " + asked + " answers are not as due");
        if (wrong != 0) {
            System.exit(1);
        }
    }
}
