/** Counts what is as due and prints what is not. */
final class Check {
    private static int right = 0;
    private static int wrong = 0;
    private static String sentence = "";

    private Check() {
    }

    /** The sentence of the document that the checks from here on are about. */
    static void about(String itsSentence) {
        sentence = itsSentence + " :: ";
    }

    static void same(String what, long got, long due) {
        told(got == due, what + " answered " + got + ", due is " + due);
    }

    static void same(String what, boolean got, boolean due) {
        told(got == due, what + " answered " + got + ", due is " + due);
    }

    static void same(String what, double got, double due) {
        told(got == due, what + " answered " + got + ", due is " + due);
    }

    static void same(String what, String got, String due) {
        told(got.equals(due), what + " answered " + got + ", due is " + due);
    }

    static void outside(String what, Runnable call) {
        same(what, thrownBy(call), "IndexOutOfBoundsException");
    }

    static void illegal(String what, Runnable call) {
        same(what, thrownBy(call), "IllegalArgumentException");
    }

    static void refused(String what, Runnable call) {
        same(what, thrownBy(call), "IllegalStateException");
    }

    static String thrownBy(Runnable call) {
        try {
            call.run();
            return "nothing";
        } catch (RuntimeException e) {
            return e.getClass().getSimpleName();
        }
    }

    private static void told(boolean isRight, String text) {
        if (isRight) {
            right++;
        } else {
            wrong++;
            System.out.println("WRONG: " + sentence + text);
        }
    }

    /** To be called last. */
    static void end(String name) {
        System.out.println(name + ": " + right + " answers as due, " + wrong + " not");
        if (wrong != 0) {
            System.exit(1);
        }
    }
}
