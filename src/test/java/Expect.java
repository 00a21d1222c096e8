/** Counts the answers that are not as due, and prints them. */
final class Expect {
    interface Call {
        long answer();
    }

    private static int checks;
    private static int wrong;
    private static String sentence = "";

    private Expect() {
    }

    /** What follows is about this sentence of the document, which is printed with what is wrong. */
    static void sentence(String text) {
        sentence = "[" + text + "] ";
    }

    static void same(String what, long want, long got) {
        checks++;
        if (got != want) {
            wrong++;
            System.out.println(sentence + what + ": answered " + got + ", due is " + want);
        }
    }

    static void same(String what, String want, String got) {
        checks++;
        if (!got.equals(want)) {
            wrong++;
            System.out.println(sentence + what + ": answered\n" + got + "\ndue is\n" + want);
        }
    }

    static void argument(String what, Call call) {
        thrown(what, IllegalArgumentException.class, call);
    }

    static void state(String what, Call call) {
        thrown(what, IllegalStateException.class, call);
    }

    private static void thrown(String what, Class<?> type, Call call) {
        checks++;
        String got;
        try {
            got = "answered " + call.answer();
        } catch (RuntimeException e) {
            if (e.getClass() == type) {
                return;
            }
            got = "threw " + e.getClass().getName();
        }
        wrong++;
        System.out.println(sentence + what + ": " + got + ", due is " + type.getName());
    }

    static void end(String name) {
        System.out.println(name + ": " + checks + " answers, " + wrong + " not as due");
        if (wrong != 0) {
            System.exit(1);
        }
    }
}
