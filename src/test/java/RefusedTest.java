import java.util.List;

/**
 * "(A call that throws changes nothing, the tape neither.)" In several states each call that throws is made on one of two
 * objects that were made alike: afterwards both must answer alike, whatever is asked, and read the same tape. So must they
 * behind MISFIT and TOO_MANY ("all stays"), and behind a call that only asks.
 */
public final class RefusedTest {
    private static final Check CHECK = new Check();
    private static final int BLANKS = 0x20202020;
    private static final int[] EDGES = { Integer.MIN_VALUE, -2, -1, 0, 1, 2, 4, 6, 100, 6001, Integer.MAX_VALUE };
    private static final List<String> ASKING = List.of("fault", "count", "node", "name", "attribute", "decided", "truth", "duty",
        "differ", "witness", "out");
    private static final String FIRST = "attr a 2;attr b 1 many must;set s first{permit n for a has 1 with 1,2;duty permit 3;}";
    private static final String OTHER = "attr b 1 many must;attr a 2;set s first{deny for a has 1 and b>0;}";

    private int refused;

    public static void main(String[] args) {
        RefusedTest test = new RefusedTest();
        for (int state = 0; state < STATES.length; state++) {
            int before = test.refused;
            test.goThrough(state);
            CHECK.due("some calls were refused in state " + state, test.refused > before + 20 ? 1 : 0, 1);
        }
        CHECK.finish("RefusedTest");
    }

    interface State {
        void bring(PolicyJudge x);
    }

    private static final State[] STATES = {
        x -> { },
        x -> Check.tape(x, "set s o"),
        x -> {
            Check.load(x, 0, FIRST);
            x.bag(0, 0, 2);
            Check.tape(x, OTHER);
        },
        x -> {
            Check.load(x, 1, FIRST);
            x.bag(1, 0, 2);
            x.decide(1);
            x.print(1);
            x.reach(1, 0, 0);
            Check.tape(x, "set s one{} ?");
        },
        RefusedTest::bringBothCompared,
        x -> {
            bringBothCompared(x);
            Check.load(x, 0, "attr");
            x.reach(1, 0, 2);
            Check.tape(x, "set s one{permit;}");
        },
        x -> {
            Check.load(x, 0, FIRST);
            Check.load(x, 1, FIRST);
            x.same();
            x.decide(0);
        },
        RefusedTest::bringMisfitAndFullTape,
        RefusedTest::bringTooMany,
        RefusedTest::bringMuchPrinted,
    };

    private static void bringBothCompared(PolicyJudge x) {
        Check.load(x, 0, FIRST);
        Check.load(x, 1, OTHER);
        x.bag(0, 0, 2);
        x.bag(1, 0, 1);
        x.decide(0);
        x.decide(1);
        x.same();
        x.print(1);
        Check.tape(x, "set s one{permit;}");
    }

    private static String deep(int rules, int duties) {
        return Check.times(20, "set s one{") + Check.times(rules, "deny;") + Check.times(duties, "duty deny 1;") + Check.times(20, "}");
    }

    // Printed by sets in sets, so that few calls bring nearly 6000 bytes on the tape.
    private static void bringMisfitAndFullTape(PolicyJudge x) {
        Check.load(x, 0, deep(70, 30));
        Check.load(x, 1, OTHER);
        x.reach(1, 0, 0);
        x.print(0);
        for (int has = x.again(); has <= 5980; has += 20) {
            x.feed(BLANKS, BLANKS, BLANKS, BLANKS, BLANKS);
        }
    }

    private static void bringTooMany(PolicyJudge x) {
        String many = "attr a 8 many;attr b 8 many;set s one{permit for a meets b;}";
        Check.load(x, 0, many);
        Check.load(x, 1, many);
        x.bag(0, 0, 255);
        x.bag(1, 1, 128);
        x.decide(1);
        x.print(0);
        Check.tape(x, FIRST);
    }

    private static void bringMuchPrinted(PolicyJudge x) {
        Check.load(x, 0, deep(80, 100));
        x.print(0);
        Check.load(x, 0, FIRST);
        Check.tape(x, OTHER);
    }

    private static PolicyJudge broughtTo(int state) {
        PolicyJudge x = new PolicyJudge();
        STATES[state].bring(x);
        return x;
    }

    private void goThrough(int state) {
        String due = allAnswers(broughtTo(state));
        for (int which = 0; which < Calls.NAMES.length; which++) {
            int count = Calls.REFUSABLE[which];
            for (int first : count > 0 ? EDGES : new int[1]) {
                for (int second : count > 1 ? EDGES : new int[1]) {
                    // The third and fourth one at an edge of their own, or harmless.
                    tryCall(state, due, which, first, second, 0, 0);
                    if (count > 2 && first >= 0 && first < 2 && second >= 0 && second < 3) {
                        for (int third : EDGES) {
                            tryCall(state, due, which, first, second, third, third);
                        }
                    }
                }
            }
        }
    }

    private void tryCall(int state, String due, int which, int a, int b, int c, int d) {
        PolicyJudge x = broughtTo(state);
        String answer = Calls.answer(x, which, a, b, c, d);
        String name = Calls.NAMES[which];
        boolean thrown = answer.endsWith("Exception");
        boolean compares = name.equals("same") || name.equals("reach");
        boolean undone = compares && (answer.equals("-2") || answer.equals("-3"));
        if (thrown || undone || ASKING.contains(name)) {
            refused++;
            String call = name + "(" + a + ", " + b + ", " + c + ", " + d + ") in state " + state;
            CHECK.due("all behind " + call + ", which answered " + answer, allAnswers(x), due);
        }
    }

    /** What an object answers to all that can be asked; at last its tape is read. */
    private static String allAnswers(PolicyJudge x) {
        StringBuilder all = new StringBuilder();
        ask(all, x, "fault", 0, 0, 0, 0);
        for (int text = 0; text < 2; text++) {
            askOfText(all, x, text);
        }
        for (int k = 0; k < 36; k++) {
            ask(all, x, "differ", k / 6, k % 6, 0, 0);
        }
        for (int i = 0; i < 4; i++) {
            ask(all, x, "witness", i, 0, 0, 0);
        }
        for (int k : new int[] { 0, 1, 2, 3, 4, 13, 14, 30, 50, 60, 70, 80, 90, 100, 5999, 6000, 9000 }) {
            ask(all, x, "out", k, 0, 0, 0);
        }
        // The tape's length: what a feed of blanks answers, or the greatest end that is taken.
        ask(all, x, "feed", BLANKS, BLANKS, BLANKS, BLANKS);
        for (int n = 6000; n > 5980; n--) {
            ask(all, x, "end", n, 0, 0, 0);
        }
        ask(all, x, "load", 0, 0, 0, 0);
        ask(all, x, "fault", 0, 0, 0, 0);
        askOfText(all, x, 0);
        return all.append("\n").toString();
    }

    private static void askOfText(StringBuilder all, PolicyJudge x, int text) {
        for (int what = 0; what < 4; what++) {
            ask(all, x, "count", text, what, 0, 0);
            ask(all, x, "attribute", text, 0, what, 0);
            ask(all, x, "attribute", text, 1, what, 0);
            ask(all, x, "duty", text, what - 1, 0, 0);
        }
        for (int i = 0; i < 3; i++) {
            for (int what = 0; what < 6; what++) {
                ask(all, x, "node", text, i, what, 0);
            }
            ask(all, x, "name", text, 0, i, 0);
            ask(all, x, "name", text, 1, i, -1);
            ask(all, x, "decided", text, i, 0, 0);
            ask(all, x, "truth", text, i, 0, 0);
        }
        all.append("\n");
    }

    private static void ask(StringBuilder all, PolicyJudge x, String name, int a, int b, int c, int d) {
        all.append(Calls.answer(x, List.of(Calls.NAMES).indexOf(name), a, b, c, d)).append(' ');
    }
}
