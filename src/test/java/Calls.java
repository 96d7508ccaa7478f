/** The calls of the face by number, so that tests may go through all of them. */
final class Calls {
    static final String[] NAMES = { "feed", "end", "load", "fault", "count", "node", "name", "attribute", "bag", "decide",
        "decided", "truth", "duty", "same", "differ", "reach", "witness", "print", "out", "again" };
    /** How many of a call's arguments may be wrong. */
    static final int[] REFUSABLE = { 0, 1, 1, 0, 2, 3, 4, 3, 3, 1, 2, 2, 2, 0, 2, 3, 1, 1, 1, 0 };

    private Calls() {
    }

    static int make(PolicyJudge judge, int which, int a, int b, int c, int d) {
        switch (NAMES[which]) {
            case "feed": return judge.feed(a, b, c, d, a);
            case "end": judge.end(a); return 0;
            case "load": return judge.load(a);
            case "fault": return judge.fault();
            case "count": return judge.count(a, b);
            case "node": return judge.node(a, b, c);
            case "name": return judge.name(a, b, c, d);
            case "attribute": return judge.attribute(a, b, c);
            case "bag": return judge.bag(a, b, c);
            case "decide": return judge.decide(a);
            case "decided": return judge.decided(a, b);
            case "truth": return judge.truth(a, b);
            case "duty": return judge.duty(a, b);
            case "same": return judge.same();
            case "differ": return judge.differ(a, b);
            case "reach": return judge.reach(a, b, c);
            case "witness": return judge.witness(a);
            case "print": return judge.print(a);
            case "out": return judge.out(a);
            default: return judge.again();
        }
    }

    /** The exception that the call throws; null without one. */
    static Class<?> refusal(PolicyJudge judge, int which, int a, int b, int c, int d) {
        try {
            make(judge, which, a, b, c, d);
            return null;
        } catch (RuntimeException e) {
            return e.getClass();
        }
    }

    /** The answer, or the exception's name. */
    static String answer(PolicyJudge judge, int which, int a, int b, int c, int d) {
        try {
            return "" + make(judge, which, a, b, c, d);
        } catch (RuntimeException e) {
            return e.getClass().getSimpleName();
        }
    }

    /** Whether the call's promise lets it throw this. */
    static boolean mayThrow(int which, Class<?> refusal) {
        switch (NAMES[which]) {
            case "feed":
            case "same":
            case "again":
                return refusal == Check.STATE;
            case "end":
                return refusal == Check.ARGUMENT;
            case "fault":
                return false;
            case "bag":
                return refusal == Check.INDEX || refusal == Check.ARGUMENT;
            case "decide":
            case "differ":
            case "print":
                return refusal == Check.INDEX || refusal == Check.STATE;
            default:
                return refusal == Check.INDEX;
        }
    }
}
