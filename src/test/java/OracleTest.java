import java.util.ArrayList;
import java.util.HashMap;
import java.util.List;
import java.util.Map;
import java.util.Random;

/** Made texts, good and faulty, whose every answer is compared with the Oracle's. Seeds are fixed. */
public final class OracleTest {
    private static final Check CHECK = new Check();
    private static final int ROUNDS = 3000;

    private final Random random;
    private final PolicyJudge judge = new PolicyJudge();
    private final Oracle[] due = new Oracle[2];
    private final List<Map<String, Integer>> bags = new ArrayList<>(List.of(new HashMap<>(), new HashMap<>()));

    private OracleTest(long seed) {
        random = new Random(seed);
    }

    public static void main(String[] args) {
        int faulty = 0;
        for (int seed = 0; seed < ROUNDS; seed++) {
            OracleTest test = new OracleTest(seed);
            faulty += test.round(seed);
        }
        new OracleTest(ROUNDS).widest();
        CHECK.due("some texts were faulty, and not all", faulty > ROUNDS / 4 && faulty < 4 * ROUNDS ? 1 : 0, 1);
        CHECK.finish("OracleTest");
    }

    private int round(int seed) {
        int faulty = 0;
        TextMaker maker = new TextMaker(random);
        boolean small = seed % 3 != 0;
        List<String> attributes = maker.attributes(small);
        for (int turn = 0; turn < 4; turn++) {
            int text = turn % 2;
            List<String> told = new ArrayList<>(attributes);
            if (random.nextInt(4) == 0) {
                java.util.Collections.shuffle(told, random);
            }
            String words = maker.text(told, seed % 10 == 9);
            if (random.nextInt(3) == 0) {
                words = maker.spoilt(words);
            }
            faulty += load(text, words) ? 0 : 1;
            if (due[text] != null) {
                checkShape(text);
                checkPrint(text);
                checkDecisions(text);
                checkReach(text);
            }
        }
        checkSame();
        return faulty;
    }

    // Of few bytes on the tape as many printed as may be: all lines deep inside, all lists told without blanks.
    private void widest() {
        String list = "a in{0,1,2,3,4,5,6,7}";
        StringBuilder words = new StringBuilder("attr a 8 many;");
        words.append(Check.times(19, "set s one{"));
        words.append(Check.times(80, "set s one{}"));
        words.append("set s one for ").append(list);
        String end = "{" + Check.times(100, "duty deny 1;") + Check.times(20, "}");
        while (words.length() + 3 + list.length() + end.length() <= 6000) {
            words.append("or ").append(list);
        }
        CHECK.due("it has no fault", load(0, words.append(end).toString()) ? 1 : 0, 1);
        CHECK.due("it is wide", judge.print(0) > 18000 ? 1 : 0, 1);
        checkPrint(0);
    }

    private boolean load(int text, String words) {
        String label = "load of " + words;
        try {
            Oracle fresh = new Oracle(words);
            CHECK.due(label, Check.load(judge, text, words), fresh.nodes.size());
            CHECK.due(label + " fault", judge.fault(), 0);
            due[text] = fresh;
            bags.get(text).clear();
            fresh.attributes.forEach(a -> bags.get(text).put(a.name, 0));
            CHECK.dueThrow("not decided", IndexOutOfBoundsException.class, () -> judge.decided(text, 0));
            return true;
        } catch (Oracle.Fault f) {
            CHECK.due(label, Check.load(judge, text, words), -1 - f.place);
            CHECK.due(label + " fault", judge.fault(), f.kind);
            return false;
        }
    }

    private void checkShape(int text) {
        Oracle o = due[text];
        CHECK.due("attributes", judge.count(text, 0), o.attributes.size());
        CHECK.due("nodes", judge.count(text, 1), o.nodes.size());
        CHECK.due("parts", judge.count(text, 2), o.parts);
        CHECK.due("duties", judge.count(text, 3), o.duties);
        for (int i = 0; i < o.attributes.size(); i++) {
            Oracle.Attribute a = o.attributes.get(i);
            CHECK.due("name", name(text, 0, i), a.name);
            CHECK.due("size", judge.attribute(text, i, 0), a.size);
            CHECK.due("many", judge.attribute(text, i, 1), a.many ? 1 : 0);
            CHECK.due("must", judge.attribute(text, i, 2), a.must ? 1 : 0);
            CHECK.due("bag", judge.attribute(text, i, 3), bags.get(text).get(a.name));
        }
        for (int i = 0; i < o.nodes.size(); i++) {
            Oracle.Node n = o.nodes.get(i);
            CHECK.due("name", name(text, 1, i), n.name);
            CHECK.due("sort", judge.node(text, i, 0), List.of("permit", "deny", "set").indexOf(n.word));
            CHECK.due("way", judge.node(text, i, 1), n.way);
            CHECK.due("around", judge.node(text, i, 2), o.nodes.indexOf(n.around));
            CHECK.due("children", judge.node(text, i, 3), n.children.size());
            CHECK.due("own duties", judge.node(text, i, 4), n.duties.size());
            CHECK.due("expression", judge.node(text, i, 5), n.expr == null ? 0 : 1);
        }
    }

    private String name(int text, int which, int i) {
        StringBuilder name = new StringBuilder();
        for (int k = 0; k < judge.name(text, which, i, -1); k++) {
            name.append((char) judge.name(text, which, i, k));
        }
        return name.toString();
    }

    private void checkPrint(int text) {
        String want = due[text].print();
        int length = judge.print(text);
        CHECK.due("printed length", length, want.length());
        CHECK.due("printed", Check.printed(judge, length), want);
        if (length > 6000) {
            CHECK.dueThrow("again", IllegalStateException.class, judge::again);
            return;
        }
        if (random.nextInt(3) == 0) {
            Check.tape(judge, "set");
            CHECK.due("again", judge.again(), length);
            CHECK.due("load again", judge.load(text), due[text].nodes.size());
            due[text] = new Oracle(want);
            bags.get(text).replaceAll((n, mask) -> 0);
            checkShape(text);
            CHECK.due("printed again", Check.printed(judge, judge.print(text)), want);
        }
    }

    private void checkDecisions(int text) {
        Oracle o = due[text];
        for (int turn = 0; turn < 4; turn++) {
            for (int i = 0; i < o.attributes.size(); i++) {
                Oracle.Attribute a = o.attributes.get(i);
                List<Integer> all = a.bags();
                int mask = all.get(random.nextInt(all.size()));
                CHECK.due("bag before", judge.bag(text, i, mask), bags.get(text).put(a.name, mask));
                int k = i;
                int other = random.nextInt(300) - 10;
                if (!all.contains(other)) {
                    CHECK.dueThrow("bag " + other, IllegalArgumentException.class, () -> judge.bag(text, k, other));
                }
            }
            int decision = judge.decide(text);
            Oracle.Judged want = o.new Judged(bags.get(text));
            CHECK.due("decide", decision, want.decisions.get(o.nodes.get(0)));
            for (int i = 0; i < o.nodes.size(); i++) {
                CHECK.due("decided", judge.decided(text, i), want.decisions.get(o.nodes.get(i)));
                CHECK.due("truth", judge.truth(text, i), want.truths.get(o.nodes.get(i)));
            }
            CHECK.due("duties", judge.duty(text, -1), want.duties.size());
            for (int k = 0; k < want.duties.size(); k++) {
                CHECK.due("duty", judge.duty(text, k), want.duties.get(k));
            }
        }
    }

    private void checkReach(int text) {
        Oracle o = due[text];
        List<List<Integer>> all = o.requests();
        int node = random.nextInt(o.nodes.size());
        if (all == null) {
            CHECK.due("reach of too many", judge.reach(text, node, 0), -3);
            return;
        }
        if (all.size() > 200) {
            return;
        }
        int[] first = new int[6];
        java.util.Arrays.fill(first, -1);
        for (int r = 0; r < all.size(); r++) {
            int d = o.new Judged(o.named(all.get(r))).decisions.get(o.nodes.get(node));
            first[d] = first[d] < 0 ? r : first[d];
        }
        for (int d = 0; d < 6; d++) {
            CHECK.due("reach", judge.reach(text, node, d), first[d] < 0 ? 0 : 1);
            checkWitness(first[d] < 0 ? List.of() : all.get(first[d]));
        }
    }

    private void checkWitness(List<Integer> want) {
        for (int i = 0; i < want.size(); i++) {
            CHECK.due("witness", judge.witness(i), want.get(i));
        }
        CHECK.dueThrow("witness too far", IndexOutOfBoundsException.class, () -> judge.witness(want.size()));
    }

    private void checkSame() {
        if (due[0] == null || due[1] == null) {
            CHECK.dueThrow("same", IllegalStateException.class, judge::same);
            return;
        }
        int same = judge.same();
        if (!due[0].shape().equals(due[1].shape())) {
            CHECK.due("misfit", same, -2);
            return;
        }
        List<List<Integer>> all = due[0].requests();
        if (all == null) {
            CHECK.due("too many", same, -3);
            CHECK.dueThrow("differ", IllegalStateException.class, () -> judge.differ(0, 0));
            return;
        }
        int[] tally = new int[36];
        List<Integer> witness = List.of();
        int want = 1;
        for (List<Integer> request : all) {
            Map<String, Integer> named = due[0].named(request);
            int one = due[0].new Judged(named).decisions.get(due[0].nodes.get(0));
            int other = due[1].new Judged(named).decisions.get(due[1].nodes.get(0));
            tally[one * 6 + other]++;
            if (one != other && want == 1) {
                want = 0;
                witness = request;
            }
        }
        CHECK.due("same", same, want);
        checkWitness(witness);
        for (int k = 0; k < 36; k++) {
            CHECK.due("differ", judge.differ(k / 6, k % 6), tally[k]);
        }
    }
}
