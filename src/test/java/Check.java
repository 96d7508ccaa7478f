import java.nio.charset.StandardCharsets;

/** Counts answers that are not due, and speaks with a PolicyJudge in texts. */
final class Check {
    static final Class<IndexOutOfBoundsException> INDEX = IndexOutOfBoundsException.class;
    static final Class<IllegalArgumentException> ARGUMENT = IllegalArgumentException.class;
    static final Class<IllegalStateException> STATE = IllegalStateException.class;

    interface Call {
        int answer();
    }

    interface CallOf {
        int answer(int argument);
    }

    private int right;
    private int wrong;

    void due(String what, long got, long want) {
        if (got == want) {
            right++;
        } else {
            wrong++;
            System.out.println(what + " answered " + got + ", due is " + want);
        }
    }

    void due(String what, String got, String want) {
        if (got.equals(want)) {
            right++;
        } else {
            wrong++;
            System.out.println(what + " answered\n" + got + "due is\n" + want);
        }
    }

    void dueThrow(String what, Class<? extends RuntimeException> want, Call call) {
        String got;
        try {
            got = "the answer " + call.answer();
        } catch (RuntimeException e) {
            got = e.getClass().getSimpleName();
        }
        due(what, got + "\n", want.getSimpleName() + "\n");
    }

    /** Low and high are taken; what is one too small, one too large, or as far off as can be, is refused. */
    void dueRange(String what, int low, int high, Class<? extends RuntimeException> refusal, CallOf call) {
        for (int taken : new int[] { low, high }) {
            due(what + " takes " + taken, refusalOf(() -> call.answer(taken)) + "\n", "nothing\n");
        }
        for (int refused : new int[] { low - 1, high + 1, Integer.MIN_VALUE, Integer.MAX_VALUE }) {
            dueThrow(what + " of " + refused, refusal, () -> call.answer(refused));
        }
    }

    /** Every one of these calls is refused so. */
    void dueThrows(String what, Class<? extends RuntimeException> refusal, Call... calls) {
        for (int k = 0; k < calls.length; k++) {
            dueThrow(what + ", call " + k, refusal, calls[k]);
        }
    }

    private static String refusalOf(Call call) {
        try {
            call.answer();
            return "nothing";
        } catch (RuntimeException e) {
            return e.getClass().getSimpleName();
        }
    }

    /** A new object with this text 0. */
    PolicyJudge loaded(String text) {
        PolicyJudge x = new PolicyJudge();
        due("fault of " + brief(text), load(x, 0, text) < 0 ? x.fault() : 0, 0);
        return x;
    }

    /** A new object with these texts 0 and 1. */
    PolicyJudge both(String first, String second) {
        PolicyJudge x = loaded(first);
        due("load of " + brief(second), load(x, 1, second) > 0 ? 1 : 0, 1);
        return x;
    }

    void fine(String text, int nodes) {
        PolicyJudge x = new PolicyJudge();
        due("load of " + brief(text), load(x, 0, text), nodes);
        due("fault of " + brief(text), x.fault(), 0);
    }

    void fault(String text, int kind, int place) {
        PolicyJudge x = new PolicyJudge();
        due("load of " + brief(text), load(x, 0, text), -1 - place);
        due("fault of " + brief(text), x.fault(), kind);
        due("nodes after the fault of " + brief(text), x.count(0, 1), 0);
    }

    /** The fault's place is where the ^ stands, which is no part of the text. */
    void faultAt(String marked, int kind) {
        fault(marked.replace("^", ""), kind, marked.indexOf('^'));
    }

    private static String brief(String text) {
        return text.length() <= 200 ? text : text.substring(0, 90) + " .. " + text.substring(text.length() - 90);
    }

    void finish(String tests) {
        System.out.println(tests + ": " + right + " answers as due, " + wrong + " not");
        if (wrong != 0 || right == 0) {
            System.exit(1);
        }
    }

    /** The tape holds just this text. */
    static void tape(PolicyJudge x, String text) {
        x.end(0);
        byte[] bytes = text.getBytes(StandardCharsets.ISO_8859_1);
        for (int at = 0; at < bytes.length; at += 20) {
            x.feed(four(bytes, at), four(bytes, at + 4), four(bytes, at + 8), four(bytes, at + 12), four(bytes, at + 16));
        }
        x.end(bytes.length);
    }

    private static int four(byte[] bytes, int from) {
        int number = 0;
        for (int k = from; k < from + 4; k++) {
            number = number << 8 | (k < bytes.length ? bytes[k] & 255 : 0);
        }
        return number;
    }

    static int load(PolicyJudge x, int text, String words) {
        tape(x, words);
        return x.load(text);
    }

    /** What out() tells, all of it. */
    static String printed(PolicyJudge x, int length) {
        StringBuilder all = new StringBuilder();
        for (int k = 0; k < length; k++) {
            all.append((char) x.out(k));
        }
        return all.toString();
    }

    static String times(int n, String text) {
        return text.repeat(n);
    }
}
