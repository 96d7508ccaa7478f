import java.util.ArrayList;
import java.util.List;

/** The document's section 4 and promises 15 to 18: texts that just fit, the first request and the last, 4096 and more. */
public final class CompareEdgesTest {
    private static final Check CHECK = new Check();
    private static final String EMPTY = "set s one{}";

    public static void main(String[] args) {
        fitsInAnyOrder();
        misfitsByOneThing();
        misfitsWithWhatWasBefore();
        requestsInOrder();
        atMost4096();
        moreThanANumberCanTell();
        misfitBeforeTooMany();
        sameWithoutATextThere();
        sameIsOneWithoutWitness();
        firstDifferenceIsTheWitness();
        sameKeepsBagsAndDecisions();
        misfitAndTooManyKeepAll();
        differOfEveryTwo();
        differSinceTheLatestLoad();
        reachFirstAndLast();
        reachOfEachNode();
        reachTooManyKeepsAll();
        reachRefused();
        witnessOfEachAttribute();
        witnessGoes();
        CHECK.finish("CompareEdgesTest");
    }

    private static void same(String first, String second, int due) {
        CHECK.due("same of " + first + " and " + second, CHECK.both(first, second).same(), due);
    }

    // "Two texts FIT, if they have the same attributes: .. (in any order)": none, one, eight.
    private static void fitsInAnyOrder() {
        same(EMPTY, EMPTY, 1);
        same("attr a 8 many must;" + EMPTY, "attr a 8 many must;" + EMPTY, 1);
        String up = "";
        String down = "";
        for (int i = 0; i < 8; i++) {
            String attribute = "attr a" + i + " 1" + (i % 2 > 0 ? " many" : "") + (i % 3 > 0 ? " must" : "") + ";";
            up = up + attribute;
            down = attribute + down;
        }
        same(up + EMPTY, down + EMPTY, 1);
        same(up + "set s one{permit for a1>0 and a7 none;}", down + "set s one{permit for a7 none and a1>0;}", 1);
        same(up + "set s one{permit for a1>0 and a7 none;}", down + "set s one{permit for a7>0 and a1 none;}", 0);
        // Names of sets and rules, and how a text is told, are nothing to it.
        same("attr a 2;set s one{permit x;}", "attr a 2;set t first{permit y;permit z;}", 1);
    }

    // "for each NAME one of the same SIZE, many and must"
    private static void misfitsByOneThing() {
        String two = "attr a 2;attr b 3 many;";
        same(two + EMPTY, "attr a 2;attr b 3 many;attr c 1;" + EMPTY, -2);
        same(two + EMPTY, "attr a 2;" + EMPTY, -2);
        same(two + EMPTY, EMPTY, -2);
        same(EMPTY, two + EMPTY, -2);
        same(two + EMPTY, "attr a 2;attr c 3 many;" + EMPTY, -2);
        same(two + EMPTY, "attr a 2;attr B 3 many;" + EMPTY, -2);
        same(two + EMPTY, "attr a 2;attr bb 3 many;" + EMPTY, -2);
        same(two + EMPTY, "attr a 1;attr b 3 many;" + EMPTY, -2);
        same(two + EMPTY, "attr a 3;attr b 3 many;" + EMPTY, -2);
        same(two + EMPTY, "attr a 2 many;attr b 3 many;" + EMPTY, -2);
        same(two + EMPTY, "attr a 2;attr b 3;" + EMPTY, -2);
        same(two + EMPTY, "attr a 2 must;attr b 3 many;" + EMPTY, -2);
        same(two + EMPTY, "attr a 2;attr b 3 many must;" + EMPTY, -2);
        same(two + EMPTY, "attr b 2;attr a 3 many;" + EMPTY, -2);
        same("attr abcdefghijkl 1;" + EMPTY, "attr abcdefghijkm 1;" + EMPTY, -2);
        same("attr abcdefghijkl 1;" + EMPTY, "attr abcdefghijk 1;" + EMPTY, -2);
        String seven = "";
        for (int i = 0; i < 7; i++) {
            seven += "attr a" + i + " 1;";
        }
        same(seven + "attr b 1;" + EMPTY, seven + "attr c 1;" + EMPTY, -2);
        same(seven + "attr b 1;" + EMPTY, "attr c 1;" + seven + EMPTY, -2);
        same(seven + "attr b 1;" + EMPTY, "attr b 1;" + seven + EMPTY, 1);
    }

    // What a text had before is none of its attributes now.
    private static void misfitsWithWhatWasBefore() {
        for (int loads = 1; loads <= 4; loads++) {
            PolicyJudge x = CHECK.both("attr a 1;attr b 1;" + EMPTY, "attr b 1;" + EMPTY);
            for (int k = 0; k < loads; k++) {
                Check.load(x, 0, "attr a 1;" + EMPTY);
            }
            CHECK.due("same", x.same(), -2);
            Check.load(x, 0, "attr b 1;" + EMPTY);
            CHECK.due("same", x.same(), 1);
        }
    }

    // "REQUESTS are in order by the attributes .., the last one quickest; each one's bags by their MASKS, the least first":
    // of any two requests the one that comes first is found.
    private static void requestsInOrder() {
        List<int[]> requests = new ArrayList<>();
        for (int a = 0; a < 4; a++) {
            for (int b : new int[] { 0, 1, 2, 4 }) {
                requests.add(new int[] { a, b });
            }
        }
        String attributes = "attr a 2 many;attr b 3;";
        for (int first = 0; first < 16; first++) {
            for (int second = first; second < 16; second++) {
                String set = "set s first{permit for " + exactly(requests.get(second)) + ";"
                    + "permit for " + exactly(requests.get(first)) + ";}";
                PolicyJudge x = CHECK.both(attributes + set, "attr b 3;attr a 2 many;" + EMPTY);
                CHECK.due("reach", x.reach(0, 0, 1), 1);
                CHECK.due("a in request " + first, x.witness(0), requests.get(first)[0]);
                CHECK.due("b in request " + first, x.witness(1), requests.get(first)[1]);
                CHECK.due("same", x.same(), 0);
                CHECK.due("a in request " + first, x.witness(0), requests.get(first)[0]);
                CHECK.due("b in request " + first, x.witness(1), requests.get(first)[1]);
                CHECK.due("how many", x.differ(1, 0), first == second ? 1 : 2);
                CHECK.due("all others", x.differ(0, 0), first == second ? 15 : 14);
            }
        }
    }

    private static String exactly(int[] request) {
        return having("a", request[0]) + " and " + having("b", request[1]);
    }

    private static String having(String name, int mask) {
        StringBuilder all = new StringBuilder(name + "=" + Integer.bitCount(mask));
        for (int value = 0; value < 3; value++) {
            all.append((mask >> value & 1) != 0 ? " and " + name + " has " + value : "");
        }
        return all.toString();
    }

    // "More than 4096 are TOO_MANY": 4096 in several ways, and what is just above.
    private static void atMost4096() {
        String[] most = { "attr a 8 many;attr b 4 many;", "attr a 4 many;attr b 8 many;", "attr a 6 many;attr b 6 many;",
            "attr a 1;attr b 1;attr c 1;attr d 1;attr e 1;attr f 1;attr g 3 many;attr h 3 many;",
            "attr a 7;attr b 7;attr c 7;attr d 7;" };
        for (String attributes : most) {
            same(attributes + EMPTY, attributes + EMPTY, 1);
            PolicyJudge x = CHECK.both(attributes + EMPTY, attributes + EMPTY);
            x.same();
            CHECK.due("all requests", x.differ(0, 0), 4096);
            CHECK.due("reach", x.reach(0, 0, 0), 1);
            CHECK.due("reach of none", x.reach(1, 0, 1), 0);
        }
        String[] more = { "attr a 6;attr b 6;attr c 6;attr d 3;attr e 2;", "attr a 8 many;attr b 4 many;attr c 1;",
            "attr a 1;attr b 4 many;attr c 8 many;", "attr a 8;attr b 8;attr c 8;attr d 5;", "attr a 8 many;attr b 5 many;" };
        for (String attributes : more) {
            same(attributes + EMPTY, attributes + EMPTY, -3);
            PolicyJudge x = CHECK.loaded(attributes + EMPTY);
            CHECK.due("reach of " + attributes, x.reach(0, 0, 0), -3);
            // Judging one request is not going through all.
            CHECK.due("decide", x.decide(0), 0);
        }
    }

    // 2 to the 16, 24, 31, 32, 33, 56, 63 and 64: numbers that wrap around to little or nothing.
    private static void moreThanANumberCanTell() {
        for (int[] sizes : new int[][] { { 8, 8 }, { 8, 8, 8 }, { 8, 8, 8, 7 }, { 8, 8, 8, 8 }, { 8, 8, 8, 8, 1 },
            { 8, 8, 8, 8, 8, 8, 8 }, { 8, 8, 8, 8, 8, 8, 8, 7 }, { 8, 8, 8, 8, 8, 8, 8, 8 } }) {
            StringBuilder attributes = new StringBuilder();
            for (int i = 0; i < sizes.length; i++) {
                attributes.append("attr a").append(i).append(' ').append(sizes[i]).append(" many;");
            }
            same(attributes + EMPTY, attributes + EMPTY, -3);
            CHECK.due("reach", CHECK.loaded(attributes + EMPTY).reach(0, 0, 0), -3);
        }
    }

    private static void misfitBeforeTooMany() {
        String many = "attr a 8 many;attr b 8 many;";
        same(many + EMPTY, "attr a 8 many;attr b 8;" + EMPTY, -2);
        same("attr a 8 many;" + EMPTY, many + EMPTY, -2);
        same(many + EMPTY, EMPTY, -2);
    }

    // "IllegalStateException: some text is not there."
    private static void sameWithoutATextThere() {
        PolicyJudge none = new PolicyJudge();
        CHECK.dueThrow("no text", Check.STATE, none::same);
        for (int there = 0; there < 2; there++) {
            PolicyJudge x = new PolicyJudge();
            CHECK.due("load", Check.load(x, there, EMPTY), 1);
            CHECK.dueThrow("just text " + there, Check.STATE, x::same);
            Check.load(x, 1 - there, "set s one{");
            CHECK.dueThrow("just a fault beside text " + there, Check.STATE, x::same);
            Check.load(x, 1 - there, EMPTY);
            CHECK.due("both", x.same(), 1);
        }
    }

    // "1 for all REQUESTS node 0 decides alike (no WITNESS any more)"
    private static void sameIsOneWithoutWitness() {
        PolicyJudge x = CHECK.both("attr a 2;set s first{permit for a has 0;}", "attr a 2;set s first{permit for a in{0};}");
        CHECK.due("reach", x.reach(0, 0, 1), 1);
        CHECK.due("its witness", x.witness(0), 1);
        CHECK.due("same", x.same(), 1);
        CHECK.dueThrow("no witness any more", Check.INDEX, () -> x.witness(0));
        // Only node 0 is compared.
        same("attr a 2;set s first for false{permit;}", "attr a 2;set s first for false{deny;}", 1);
    }

    // "0 not: the first one where it does not is the WITNESS": the first request of all, and the last of 4096.
    private static void firstDifferenceIsTheWitness() {
        PolicyJudge first = CHECK.both("attr a 2;set s first{permit;}", "attr a 2;" + EMPTY);
        CHECK.due("same", first.same(), 0);
        CHECK.due("the first request", first.witness(0), 0);
        CHECK.due("each request", first.differ(1, 0), 3);

        String attributes = "attr a 8 many;attr b 4 many;";
        PolicyJudge last = CHECK.both(attributes + "set s first{deny for a>7 and b>3;}", attributes + EMPTY);
        CHECK.due("same", last.same(), 0);
        CHECK.due("the last request", last.witness(0), 255);
        CHECK.due("the last request", last.witness(1), 15);
        CHECK.due("just that", last.differ(2, 0), 1);
        CHECK.due("not the others", last.differ(0, 0), 4095);

        // PERMIT and PERMIT? are not alike, nor are DENY? and BOTH?.
        same("set s first{permit;}", "set s first{permit for error;}", 0);
        same("set s first{deny for error;}", "set s first{set t one{permit;deny;}}", 0);
        same("set s first{deny for error;}", "set s first for error{deny;}", 1);
    }

    // "(Bags and what was decided stay ..)": also that nothing was.
    private static void sameKeepsBagsAndDecisions() {
        String text = "attr a 2 many;set s first{permit for a has 1 with 5;}";
        for (int judged = 0; judged < 2; judged++) {
            PolicyJudge x = CHECK.both(text, "attr a 2 many;set s first{permit for a has 1 and a=1 with 5;}");
            int decided = judged;
            int other = 1 - judged;
            x.bag(decided, 0, 2);
            x.bag(other, 0, 1);
            x.decide(decided);
            for (int turn = 0; turn < 4; turn++) {
                int answer = turn == 0 ? x.same() : turn == 1 ? x.reach(decided, 0, 1) : x.reach(other, 0, turn - 1);
                CHECK.due("call " + turn, answer, turn == 0 || turn == 3 ? 0 : 1);
                CHECK.due("a bag", x.attribute(decided, 0, 3), 2);
                CHECK.due("the other's bag", x.attribute(other, 0, 3), 1);
                CHECK.due("decided", x.decided(decided, 0), 1);
                CHECK.due("truth", x.truth(decided, 1), 1);
                CHECK.due("duty", x.duty(decided, 0), 5);
                CHECK.dueThrows("the other has decided nothing", Check.INDEX, () -> x.decided(other, 0),
                    () -> x.truth(other, 0), () -> x.duty(other, -1));
            }
        }
    }

    // "by MISFIT and TOO_MANY all does"
    private static void misfitAndTooManyKeepAll() {
        String big = "attr a 8 many;attr b 5 many;";
        for (String other : new String[] { "attr a 8 many;" + EMPTY, big + EMPTY }) {
            PolicyJudge x = CHECK.both(big + EMPTY, other);
            boolean misfit = other.length() < 30;
            CHECK.due("reach", x.reach(misfit ? 1 : 0, 0, 0), misfit ? 1 : -3);
            x.bag(1, 0, 7);
            x.decide(1);
            CHECK.due("same", x.same(), misfit ? -2 : -3);
            CHECK.due("bag", x.attribute(1, 0, 3), 7);
            CHECK.due("decided", x.decided(1, 0), 0);
            if (misfit) {
                CHECK.due("the witness", x.witness(0), 0);
                CHECK.dueThrow("of one attribute", Check.INDEX, () -> x.witness(1));
            } else {
                CHECK.dueThrow("no witness", Check.INDEX, () -> x.witness(0));
            }
            CHECK.dueThrow("no comparison", Check.STATE, () -> x.differ(0, 0));
        }
    }

    // "for how many REQUESTS text 0 decides one, text 1 other": each two of the six, and none but those.
    private static void differOfEveryTwo() {
        String[] child = { "permit for false;", "permit;", "deny;", "permit for error;", "deny for error;", "set b one{permit;deny;}" };
        for (int one = 0; one < 6; one++) {
            for (int other = 0; other < 6; other++) {
                PolicyJudge x = CHECK.both("attr a 4;set s first{" + child[one] + "}", "attr a 4;set s first{" + child[other] + "}");
                CHECK.due("same", x.same(), one == other ? 1 : 0);
                for (int k = 0; k < 36; k++) {
                    CHECK.due("differ(" + k / 6 + ", " + k % 6 + ")", x.differ(k / 6, k % 6), k == one * 6 + other ? 5 : 0);
                }
            }
        }
        PolicyJudge x = CHECK.both(EMPTY, EMPTY);
        x.same();
        CHECK.due("the one request without attributes", x.differ(0, 0), 1);
        CHECK.dueRange("differ's one", 0, 5, Check.INDEX, d -> x.differ(d, 0));
        CHECK.dueRange("differ's other", 0, 5, Check.INDEX, d -> x.differ(0, d));
        CHECK.dueThrow("both wrong", Check.INDEX, () -> x.differ(6, -1));
        // 6 and -6 would be within the six times six.
        CHECK.dueThrow("not 1 * 6 + 0", Check.INDEX, () -> x.differ(0, 6));
        CHECK.dueThrow("not 2 * 6 - 6", Check.INDEX, () -> x.differ(2, -6));
    }

    // "IllegalStateException: there was none since the latest load() without a FAULT"
    private static void differSinceTheLatestLoad() {
        for (int text = 0; text < 2; text++) {
            PolicyJudge x = CHECK.both("attr a 1;set s first{permit;}", "attr a 1;" + EMPTY);
            CHECK.dueThrow("none yet", Check.STATE, () -> x.differ(1, 0));
            CHECK.dueThrow("no such decisions, none yet", Check.INDEX, () -> x.differ(1, 6));
            x.same();
            CHECK.due("two", x.differ(1, 0), 2);
            Check.load(x, text, "attr a 1;");
            CHECK.due("a fault leaves it", x.differ(1, 0), 2);
            x.reach(0, 0, 1);
            CHECK.due("reach leaves it", x.differ(1, 0), 2);
            x.reach(0, 0, 2);
            CHECK.due("reach of none leaves it", x.differ(1, 0), 2);
            x.bag(0, 0, 1);
            x.decide(0);
            CHECK.due("decide leaves it", x.differ(1, 0), 2);
            x.print(0);
            x.again();
            CHECK.due("print leaves it", x.differ(1, 0), 2);
            CHECK.due("load", x.load(text), 2);
            CHECK.dueThrow("none since the load", Check.STATE, () -> x.differ(1, 0));
            CHECK.due("compared anew", x.same(), text);
            CHECK.due("counted anew", x.differ(1, 1), text == 0 ? 0 : 2);
            CHECK.due("counted anew", x.differ(1, 0), text == 0 ? 2 : 0);
            Check.load(x, text, EMPTY);
            x.same();
            CHECK.dueThrow("a misfit is none", Check.STATE, () -> x.differ(0, 0));
        }
    }

    // "the first REQUEST (in the order of its own attributes) for which a node of a text decides so: 1; 0: there is none
    // (no WITNESS any more)"
    private static void reachFirstAndLast() {
        PolicyJudge x = CHECK.both("attr a 8 many;attr b 4 many;" + EMPTY,
            "attr b 4 many;attr a 8 many;set s first{deny for a>7 and b>3;permit for a has 0;}");
        CHECK.due("the first", x.reach(1, 0, 0), 1);
        CHECK.due("b", x.witness(0), 0);
        CHECK.due("a", x.witness(1), 0);
        CHECK.due("the second", x.reach(1, 0, 1), 1);
        CHECK.due("b", x.witness(0), 0);
        CHECK.due("a", x.witness(1), 1);
        CHECK.due("the last of 4096", x.reach(1, 0, 2), 1);
        CHECK.due("b", x.witness(0), 15);
        CHECK.due("a", x.witness(1), 255);
        for (int decision = 3; decision < 6; decision++) {
            int d = decision;
            CHECK.due("a witness", x.reach(1, 0, 1), 1);
            CHECK.due("none", x.reach(1, 0, d), 0);
            CHECK.dueThrow("no witness any more", Check.INDEX, () -> x.witness(0));
        }
        PolicyJudge none = CHECK.loaded("set s first{permit;}");
        CHECK.due("the one request", none.reach(0, 0, 1), 1);
        CHECK.due("not by it", none.reach(0, 0, 0), 0);
    }

    // Of a hundred nodes the last, and each of the six decisions.
    private static void reachOfEachNode() {
        PolicyJudge x = CHECK.loaded("attr a 2;set s first{" + Check.times(97, "permit;") + "set t first for a has 0{deny for a has 1;}}");
        CHECK.due("the last node", x.reach(0, 99, 2), 1);
        CHECK.due("its witness", x.witness(0), 2);
        CHECK.due("the set around it", x.reach(0, 98, 2), 0);
        CHECK.due("a rule before", x.reach(0, 97, 1), 1);
        CHECK.due("its witness", x.witness(0), 0);
        String[] child = { "permit for false;", "permit;", "deny;", "permit for error;", "deny for error;", "set b one{permit;deny;}" };
        PolicyJudge y = CHECK.loaded("attr a 1;set s denies{" + String.join("", child) + "}");
        for (int i = 0; i < 6; i++) {
            for (int decision = 0; decision < 6; decision++) {
                CHECK.due("node " + (i + 1) + " decides " + decision, y.reach(0, i + 1, decision), i == decision ? 1 : 0);
            }
        }
        CHECK.dueThrow("nothing was decided", Check.INDEX, () -> y.decided(0, 0));
    }

    // "TOO_MANY: all stays"
    private static void reachTooManyKeepsAll() {
        PolicyJudge x = CHECK.both("attr a 2;set s first{permit for a has 1;}", "attr a 8 many;attr b 5 many;" + EMPTY);
        CHECK.due("too many, and no witness before", x.reach(1, 0, 0), -3);
        CHECK.dueThrow("none yet", Check.INDEX, () -> x.witness(0));
        CHECK.due("reach", x.reach(0, 0, 1), 1);
        for (int decision = 0; decision < 6; decision++) {
            CHECK.due("too many", x.reach(1, 0, decision), -3);
            CHECK.due("the witness stays", x.witness(0), 2);
            CHECK.dueThrow("and has one attribute", Check.INDEX, () -> x.witness(1));
        }
    }

    // "IndexOutOfBoundsException: text, node, decision."
    private static void reachRefused() {
        PolicyJudge x = CHECK.both("attr a 2;set s first{permit for a has 1;}", "attr a 8 many;attr b 5 many;" + EMPTY);
        x.reach(0, 0, 1);
        CHECK.dueRange("reach's text", 0, 1, Check.INDEX, text -> x.reach(text, 0, 1));
        CHECK.dueRange("reach's node", 0, 1, Check.INDEX, node -> x.reach(0, node, 1));
        CHECK.dueRange("reach's decision", 0, 5, Check.INDEX, decision -> x.reach(0, 0, decision));
        CHECK.dueThrow("refused before too many", Check.INDEX, () -> x.reach(1, 1, 0));
        CHECK.dueThrow("refused before too many", Check.INDEX, () -> x.reach(1, 0, 6));
        x.reach(0, 0, 1);
        CHECK.dueThrows("refused", Check.INDEX, () -> x.reach(0, 2, 0), () -> x.reach(0, 0, 6), () -> x.reach(2, 0, 0));
        CHECK.due("the witness stays", x.witness(0), 2);
        PolicyJudge none = new PolicyJudge();
        CHECK.dueThrow("no text", Check.INDEX, () -> none.reach(0, 0, 0));
    }

    // "witness: The mask of attribute i (of text 0, or of reach()'s text) .. IndexOutOfBoundsException: there is none such"
    private static void witnessOfEachAttribute() {
        StringBuilder up = new StringBuilder();
        StringBuilder down = new StringBuilder();
        StringBuilder all = new StringBuilder("true");
        for (int i = 0; i < 8; i++) {
            String attribute = "attr a" + i + " " + (i < 3 ? 2 : 1) + ";";
            up.append(attribute);
            down.insert(0, attribute);
            all.append(" and a").append(i).append(i < 3 ? " has 1" : i < 6 ? " has 0" : " none");
        }
        PolicyJudge x = CHECK.both(up + "set s first{permit for " + all + ";}", down + EMPTY);
        CHECK.due("same", x.same(), 0);
        int[] due = { 2, 2, 2, 1, 1, 1, 0, 0 };
        for (int i = 0; i < 8; i++) {
            CHECK.due("attribute " + i + " of text 0", x.witness(i), due[i]);
        }
        CHECK.dueRange("witness", 0, 7, Check.INDEX, x::witness);
        Check.load(x, 1, down + "set s first{permit for " + all + ";}");
        CHECK.due("reach", x.reach(1, 0, 1), 1);
        for (int i = 0; i < 8; i++) {
            CHECK.due("attribute " + i + " of text 1", x.witness(i), due[7 - i]);
        }
        // A witness of fewer attributes: those of the one before are gone.
        Check.load(x, 0, "attr a 2;attr b 2;" + EMPTY);
        x.reach(1, 0, 1);
        CHECK.due("reach", x.reach(0, 0, 0), 1);
        CHECK.dueRange("witness", 0, 1, Check.INDEX, x::witness);
        Check.load(x, 0, EMPTY);
        CHECK.due("reach", x.reach(0, 0, 0), 1);
        CHECK.dueThrow("a witness without attributes", Check.INDEX, () -> x.witness(0));
    }

    // "no WITNESS": none yet, none since the load of either text; a fault leaves it.
    private static void witnessGoes() {
        for (int text = 0; text < 2; text++) {
            PolicyJudge x = CHECK.both("attr a 2;set s first{permit for a has 1;}", "attr a 2;" + EMPTY);
            CHECK.dueThrow("none yet", Check.INDEX, () -> x.witness(0));
            CHECK.due("same", x.same(), 0);
            CHECK.due("witness", x.witness(0), 2);
            Check.load(x, text, "?");
            CHECK.due("a fault leaves it", x.witness(0), 2);
            x.bag(0, 0, 1);
            x.decide(0);
            x.print(0);
            CHECK.due("other calls leave it", x.witness(0), 2);
            x.reach(1, 0, 0);
            CHECK.due("the latest", x.witness(0), 0);
            Check.load(x, text, "attr a 2;" + EMPTY);
            CHECK.dueThrow("none since the load", Check.INDEX, () -> x.witness(0));
        }
    }
}
