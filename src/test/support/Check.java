/** Counts wrong answers, and puts texts on tapes; what the tests share. */
final class Check {
    static final String INDEX = "IndexOutOfBoundsException";
    static final String ARGUMENT = "IllegalArgumentException";
    static final String STATE = "IllegalStateException";
    private static int wrong = 0;
    private static int right = 0;

    private Check() {
    }

    /** A call that may throw. */
    interface Call {
        long answer();
    }

    static void same(String what, long got, long want) {
        if (got == want) {
            right++;
        } else {
            wrong++;
            System.out.println(what + " answered " + got + ", due is " + want);
        }
    }

    static void isTrue(String what, boolean is) {
        same(what, is ? 1 : 0, 1);
    }

    static void isFalse(String what, boolean is) {
        same(what, is ? 1 : 0, 0);
    }

    /** The call throws just this exception, and nothing that can be asked is changed by it. */
    static void throwsOnly(String what, CardBridge x, String exception, Call call) {
        long digest = x.digest();
        int errorAt = x.errorAt();
        String got = "nothing";
        try {
            call.answer();
        } catch (RuntimeException e) {
            got = e.getClass().getSimpleName();
        }
        if (!got.equals(exception)) {
            wrong++;
            System.out.println(what + " threw " + got + ", due is " + exception);
        }
        same(what + " leaves the digest", x.digest(), digest);
        same(what + " leaves errorAt()", x.errorAt(), errorAt);
    }

    /** Appends a text to the tape. */
    static void write(CardBridge x, String text) {
        int size = x.count(8) + text.length();
        StringBuilder padded = new StringBuilder(text);
        while (padded.length() % 20 != 0) {
            padded.append(' ');
        }
        for (int at = 0; at < padded.length(); at += 20) {
            x.feed(four(padded, at), four(padded, at + 4), four(padded, at + 8), four(padded, at + 12),
                    four(padded, at + 16));
        }
        x.trim(size);
    }

    private static int four(CharSequence text, int at) {
        return text.charAt(at) << 24 | text.charAt(at + 1) << 16 | text.charAt(at + 2) << 8 | text.charAt(at + 3);
    }

    static int build(CardBridge x, String design) {
        write(x, design);
        return x.build();
    }

    static int run(CardBridge x, String script) {
        write(x, script);
        return x.run();
    }

    static void buildIs(CardBridge x, String design, int error, int errorAt) {
        same("build of " + design, build(x, design), error);
        same("errorAt of " + design, x.errorAt(), errorAt);
        same("the tape behind " + design, x.count(8), 0);
    }

    static void runIs(CardBridge x, String script, int error, int errorAt) {
        same("run of " + script, run(x, script), error);
        same("errorAt of " + script, x.errorAt(), errorAt);
        same("the tape behind " + script, x.count(8), 0);
    }

    static String paper(CardBridge x) {
        StringBuilder text = new StringBuilder();
        for (int i = 0; i < x.count(7); i++) {
            text.append((char) x.byteAt(i));
        }
        return text.toString();
    }

    /** The script has no error, and writes these lines (told with | for line ends) onto an empty paper. */
    static void writes(CardBridge x, String script, String lines) {
        x.clear();
        same("run of " + script, run(x, script), 0);
        String got = paper(x).replace('\n', '|');
        isTrue(script + " wrote " + got + ", due is " + lines, got.equals(lines));
        x.clear();
    }

    static String times(int n, String text) {
        return text.repeat(n);
    }

    static void end(String name) {
        System.out.println(name + ": " + right + " answers right, " + wrong + " wrong");
        if (wrong != 0 || right == 0) {
            System.exit(1);
        }
    }
}
