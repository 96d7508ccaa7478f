import java.nio.charset.StandardCharsets;

/** Counts answers that are not due, and speaks with a PolicyJudge in texts. */
final class Check {
    interface Call {
        int answer();
    }

    private int right;
    private int wrong;

    void due(String what, long got, long want) {
        if (got == want) {
            right++;
        } else {
            wrong++;
            System.out.println(what + " answered " + got + ", due is " + want);
        }
    }

    void due(String what, String got, String want) {
        if (got.equals(want)) {
            right++;
        } else {
            wrong++;
            System.out.println(what + " answered\n" + got + "due is\n" + want);
        }
    }

    void dueThrow(String what, Class<? extends RuntimeException> want, Call call) {
        String got;
        try {
            got = "the answer " + call.answer();
        } catch (RuntimeException e) {
            got = e.getClass().getSimpleName();
        }
        due(what, got + "\n", want.getSimpleName() + "\n");
    }

    void finish(String tests) {
        System.out.println(tests + ": " + right + " answers as due, " + wrong + " not");
        if (wrong != 0 || right == 0) {
            System.exit(1);
        }
    }

    /** The tape holds just this text. */
    static void tape(PolicyJudge x, String text) {
        x.end(0);
        byte[] bytes = text.getBytes(StandardCharsets.ISO_8859_1);
        for (int at = 0; at < bytes.length; at += 20) {
            x.feed(four(bytes, at), four(bytes, at + 4), four(bytes, at + 8), four(bytes, at + 12), four(bytes, at + 16));
        }
        x.end(bytes.length);
    }

    private static int four(byte[] bytes, int from) {
        int number = 0;
        for (int k = from; k < from + 4; k++) {
            number = number << 8 | (k < bytes.length ? bytes[k] & 255 : 0);
        }
        return number;
    }

    static int load(PolicyJudge x, int text, String words) {
        tape(x, words);
        return x.load(text);
    }

    /** What out() tells, all of it. */
    static String printed(PolicyJudge x, int length) {
        StringBuilder all = new StringBuilder();
        for (int k = 0; k < length; k++) {
            all.append((char) x.out(k));
        }
        return all.toString();
    }

    static String times(int n, String text) {
        return text.repeat(n);
    }
}
