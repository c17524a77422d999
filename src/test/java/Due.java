/** Counts the answers that are not the ones that are due, and tells where they were asked for. */
final class Due {
    interface Call {
        Object answer();
    }

    private static int wrong = 0;
    private static int asked = 0;

    private Due() {
    }

    /** The answer of the call has to be this one. */
    static void is(Object due, Call call) {
        asked++;
        String got;
        try {
            got = String.valueOf(call.answer());
        } catch (RuntimeException thrown) {
            got = "throws." + thrown.getClass().getName();
        }
        if (!got.equals(String.valueOf(due))) {
            tellWrong(got, due);
        }
    }

    /** The call has to throw just this exception, by a throw statement of the called method itself. */
    static void fails(Class<? extends RuntimeException> due, Call call) {
        asked++;
        try {
            tellWrong(call.answer(), "throws." + due.getName());
        } catch (RuntimeException thrown) {
            if (thrown.getClass() != due || !isOwn(thrown)) {
                tellWrong("throws." + thrown, "throws." + due.getName());
            }
        }
    }

    /** The call is refused, for this reason and with this detail, and without a cause. */
    static void refuses(VillageFeud village, int reason, int detail, Call call) {
        fails(UnsupportedOperationException.class, call);
        is(reason, () -> village.reason(0, false));
        is(detail, () -> village.reason(0, true));
        fails(java.util.NoSuchElementException.class, () -> village.reason(1, false));
        fails(java.util.NoSuchElementException.class, () -> village.reason(1, true));
    }

    /** What the machine throws carries words of its own, or comes from below the called method. */
    static boolean isOwn(RuntimeException thrown) {
        StackTraceElement top = thrown.getStackTrace()[0];
        String words = String.valueOf(thrown.getMessage());
        return top.getClassName().equals("VillageFeud")
                && !words.contains("out of bounds")
                && !words.contains("by zero")
                && !words.contains("out of range: ");
    }

    static int asked() {
        return asked;
    }

    static int wrong() {
        return wrong;
    }

    /** Ends the program, with 1 if an answer was wrong. */
    static void end() {
        System.out.println(asked + " asked, " + wrong + " wrong");
        if (wrong != 0 || asked == 0) {
            System.exit(1);
        }
    }

    private static void tellWrong(Object got, Object due) {
        wrong++;
        StackTraceElement[] stack = Thread.currentThread().getStackTrace();
        StringBuilder where = new StringBuilder();
        for (StackTraceElement frame : stack) {
            String file = String.valueOf(frame.getFileName());
            if (file.endsWith("Test.java") || file.startsWith("SentencesOf")) {
                where.append(file).append(':').append(frame.getLineNumber()).append(' ');
            }
        }
        System.out.println(where + "answered " + got + ", due is " + due);
    }
}
