/** What the tests have in common: what is due, and registries that are told much in one line. */
abstract class Checks {
    static final String INDEX = "IndexOutOfBoundsException";
    static final String ARGUMENT = "IllegalArgumentException";
    static final String STATE = "IllegalStateException";
    static final String LETTERS = "abcdefghijklmnopqrstuvwxyz0123456789+-*/(),.";
    static final int NONE = FlumeRegistry.NONE;
    static final int STANDS = FlumeRegistry.STANDS, MENDED = FlumeRegistry.MENDED, RAINED = FlumeRegistry.RAINED;
    static final int RINGS = FlumeRegistry.RINGS, RIGHT = FlumeRegistry.RIGHT;
    static final int WRONG = FlumeRegistry.WRONG, WITHDRAWN = FlumeRegistry.WITHDRAWN;
    private static int made = 0;
    private static int wrong = 0;
    private static String sentence = "";

    interface Call {
        void make();
    }

    /** The sentence of the document, or its promise, that the checks behind this one are for. */
    static void sentence(String words) {
        sentence = words;
    }

    /** How many checks have been made. */
    static int made() {
        return made;
    }

    private static void complain(String what, Object got, Object want) {
        wrong++;
        System.out.println(sentence + ": " + what + " is " + got + ", due is " + want);
    }

    static void same(String what, long got, long want) {
        made++;
        if (got != want) {
            complain(what, got, want);
        }
    }

    static void same(String what, String got, String want) {
        made++;
        if (!got.equals(want)) {
            complain(what, got, want);
        }
    }

    static void bits(String what, int got, float want) {
        made++;
        if (got != Float.floatToRawIntBits(want)) {
            complain(what, Float.intBitsToFloat(got), want);
        }
    }

    /** The name of the exception that a call throws. */
    static String thrown(Call call) {
        try {
            call.make();
        } catch (RuntimeException e) {
            return e.getClass().getSimpleName();
        }
        return "nothing";
    }

    static void fails(String what, String want, Call call) {
        made++;
        String got = thrown(call);
        if (!got.equals(want)) {
            complain("what " + what + " throws", got, want);
        }
    }

    static FlumeRegistry write(FlumeRegistry x, String text) {
        x.wipe();
        for (int at = 0; at < text.length(); at++) {
            x.type(text.charAt(at));
        }
        return x;
    }

    static int publish(FlumeRegistry x, int model, String text) {
        return write(x, text).publish(model);
    }

    static void rule(FlumeRegistry x, int dam, String text) {
        write(x, text).rule(dam);
    }

    static int fault(String text, boolean isRule) {
        return write(new FlumeRegistry(), text).fault(isRule);
    }

    /** What a text that names no other model is worked out to in the hour 3. */
    static void gives(String text, float want) {
        FlumeRegistry x = new FlumeRegistry();
        bits(text, x.out(publish(x, 0, text), 3), want);
    }

    /** Lets more hours pass than one call may. */
    static FlumeRegistry later(FlumeRegistry x, int hours) {
        for (int left = hours; left > 0; left -= 24) {
            x.pass(Math.min(left, 24));
        }
        return x;
    }

    /** Ends the test: with exit code 1 if a check was wrong. */
    static void end(String all) {
        System.out.println(wrong == 0 ? all : wrong + " answers are not as due");
        if (wrong != 0) {
            System.exit(1);
        }
    }
}
