/** The document's sections 2 and 3: bags that are empty and full, errors, sets without children, duties none and all. */
public final class JudgeEdgesTest {
    private static final Check CHECK = new Check();
    private static final int FALSE = 0, TRUE = 1, ERROR = 2;
    private static final int NEITHER = 0, PERMIT = 1, DENY = 2, PERMIT_MAYBE = 3, DENY_MAYBE = 4, BOTH_MAYBE = 5;
    private static final String[] WAYS = { "denies", "permits", "first", "one", "elsedeny", "elsepermit" };
    // A child for each decision.
    private static final String[] CHILD = { "permit for false;", "permit;", "deny;", "permit for error;", "deny for error;",
        "set b one{permit;deny;}" };

    public static void main(String[] args) {
        hasEachValue();
        listsAndEmptyBags();
        fewerAsManyMore();
        meetsOfUnequalSizes();
        isOfNoneAndSeveral();
        noneOfNone();
        mustAndEmptyBags();
        mustAndOtherBags();
        notOrAnd();
        longJoints();
        deepestExpressions();
        rules();
        setsByTruth();
        setsWithoutChildren();
        setsWithoutChildrenBeforeOthers();
        setsWithOneChild();
        deniesAndPermits();
        firstThatIsNotNeither();
        oneByExpressions();
        elseDenyAndElsePermit();
        hundredChildren();
        deepestSets();
        dutiesOfPermitAndDenyAlone();
        dutiesOfChildrenThatDecideTheSame();
        dutiesByFirstAndOne();
        dutiesNoneAndAll();
        CHECK.finish("JudgeEdgesTest");
    }

    private static int truthOf(PolicyJudge x) {
        x.decide(0);
        return x.truth(0, 0);
    }

    private static void truth(String attributes, String expression, int[] masks, int due) {
        PolicyJudge x = CHECK.loaded(attributes + "set s one for " + expression + "{}");
        for (int i = 0; i < masks.length; i++) {
            x.bag(0, i, masks[i]);
        }
        CHECK.due(attributes + expression + " of " + java.util.Arrays.toString(masks), truthOf(x), due);
    }

    private static void decision(String text, int due) {
        CHECK.due("decision of " + text, CHECK.loaded(text).decide(0), due);
    }

    private static int[] bags(int... masks) {
        return masks;
    }

    // "has n: n is in B", from 0 to SIZE - 1.
    private static void hasEachValue() {
        for (int size = 1; size <= 8; size++) {
            for (int value = 0; value < size; value++) {
                PolicyJudge x = CHECK.loaded("attr a " + size + " many;set s one for a has " + value + "{}");
                int full = (1 << size) - 1;
                for (int mask : new int[] { 0, 1 << value, full - (1 << value), full }) {
                    x.bag(0, 0, mask);
                    CHECK.due("has " + value + " of " + mask, truthOf(x), mask >> value & 1);
                }
            }
        }
    }

    // "in list: some of B is in the list. only list: all of B are."
    private static void listsAndEmptyBags() {
        String a = "attr a 8 many;";
        String all = "{0,1,2,3,4,5,6,7}";
        truth(a, "a in{0}", bags(0), FALSE);
        truth(a, "a in" + all, bags(0), FALSE);
        truth(a, "a in" + all, bags(128), TRUE);
        truth(a, "a in{7}", bags(128), TRUE);
        truth(a, "a in{7}", bags(127), FALSE);
        truth(a, "a in{0}", bags(254), FALSE);
        truth(a, "a in{0}", bags(255), TRUE);
        truth(a, "a only{0}", bags(0), TRUE);
        truth(a, "a only" + all, bags(0), TRUE);
        truth(a, "a only" + all, bags(255), TRUE);
        truth(a, "a only{0,1,2,3,4,5,6}", bags(255), FALSE);
        truth(a, "a only{1,2,3,4,5,6,7}", bags(255), FALSE);
        truth(a, "a only{0}", bags(1), TRUE);
        truth(a, "a only{0}", bags(3), FALSE);
        truth(a, "a only{7}", bags(128), TRUE);
    }

    // "< = > n: B has fewer, as many, more than n."
    private static void fewerAsManyMore() {
        int[] numbers = { 0, 1, 2, 7, 8, 9, 256, 999 };
        for (int n : numbers) {
            PolicyJudge x = CHECK.loaded("attr a 8 many;set s one for a<" + n + "{permit for a=" + n + ";permit for a>" + n + ";}");
            for (int mask : new int[] { 0, 1, 128, 3, 129, 127, 254, 255 }) {
                x.bag(0, 0, mask);
                x.decide(0);
                int has = Integer.bitCount(mask);
                CHECK.due(has + " < " + n, x.truth(0, 0), has < n ? 1 : 0);
                CHECK.due(has + " = " + n, x.truth(0, 1), has == n ? 1 : 0);
                CHECK.due(has + " > " + n, x.truth(0, 2), has > n ? 1 : 0);
            }
        }
    }

    // "meets: B and the other's bag share a value (the number)"
    private static void meetsOfUnequalSizes() {
        String two = "attr a 8 many;attr b 2 many;";
        for (String test : new String[] { "a meets b", "b meets a" }) {
            truth(two, test, bags(0, 0), FALSE);
            truth(two, test, bags(255, 0), FALSE);
            truth(two, test, bags(0, 3), FALSE);
            truth(two, test, bags(252, 3), FALSE);
            truth(two, test, bags(2, 2), TRUE);
            truth(two, test, bags(1, 1), TRUE);
            truth(two, test, bags(1, 2), FALSE);
            truth(two, test, bags(255, 2), TRUE);
        }
        truth("attr a 8 many;", "a meets a", bags(0), FALSE);
        truth("attr a 8 many;", "a meets a", bags(128), TRUE);
        truth("attr a 8;attr b 8;", "a meets b", bags(128, 128), TRUE);
    }

    // "is n: B is just n; an ERROR, if B has none or several"
    private static void isOfNoneAndSeveral() {
        for (String sort : new String[] { " many;", " many must;" }) {
            truth("attr a 8" + sort, "a is 0", bags(0), ERROR);
            truth("attr a 8" + sort, "a is 0", bags(1), TRUE);
            truth("attr a 8" + sort, "a is 0", bags(2), FALSE);
            truth("attr a 8" + sort, "a is 7", bags(128), TRUE);
            truth("attr a 8" + sort, "a is 7", bags(64), FALSE);
            truth("attr a 8" + sort, "a is 0", bags(3), ERROR);
            truth("attr a 8" + sort, "a is 0", bags(6), ERROR);
            truth("attr a 8" + sort, "a is 7", bags(255), ERROR);
        }
        truth("attr a 1;", "a is 0", bags(0), ERROR);
        truth("attr a 1;", "a is 0", bags(1), TRUE);
        truth("attr a 1 must;", "a is 0", bags(0), ERROR);
    }

    // "none: B has none"
    private static void noneOfNone() {
        for (String sort : new String[] { ";", " many;", " must;", " many must;" }) {
            truth("attr a 8" + sort, "a none", bags(0), TRUE);
            truth("attr a 8" + sort, "a none", bags(1), FALSE);
            truth("attr a 8" + sort, "a none", bags(128), FALSE);
        }
    }

    // "if the NAME's attribute (of meets, either's) is must, and its bag has none: has, in, only, meets are an ERROR"
    private static void mustAndEmptyBags() {
        String attributes = "attr m 2 many must;attr n 2 many must;attr o 2 many;";
        String[] errors = { "m has 0", "m in{0}", "m in{0,1}", "m only{0}", "m only{0,1}", "m meets o", "o meets m", "m meets n",
            "n meets m", "m meets m" };
        for (String test : errors) {
            truth(attributes, test, bags(0, 3, 3), ERROR);
            truth(attributes, test, bags(0, 0, 0), ERROR);
        }
        truth(attributes, "m<1", bags(0, 0, 0), TRUE);
        truth(attributes, "m<0", bags(0, 0, 0), FALSE);
        truth(attributes, "m=0", bags(0, 0, 0), TRUE);
        truth(attributes, "m>0", bags(0, 0, 0), FALSE);
        truth(attributes, "m none", bags(0, 0, 0), TRUE);
        truth(attributes, "o has 0", bags(0, 0, 0), FALSE);
        truth(attributes, "o in{0,1}", bags(0, 0, 0), FALSE);
        truth(attributes, "o only{0}", bags(0, 0, 0), TRUE);
        truth(attributes, "o meets o", bags(0, 0, 0), FALSE);
    }

    // Where it is must, but its bag has some, there is no ERROR; nor where only another's is empty.
    private static void mustAndOtherBags() {
        String attributes = "attr m 2 many must;attr n 2 many must;attr o 2 many;";
        truth(attributes, "m has 0", bags(1, 0, 0), TRUE);
        truth(attributes, "m has 0", bags(2, 0, 0), FALSE);
        truth(attributes, "m in{1}", bags(1, 0, 0), FALSE);
        truth(attributes, "m only{1}", bags(2, 0, 0), TRUE);
        truth(attributes, "m meets o", bags(3, 0, 0), FALSE);
        truth(attributes, "o meets m", bags(3, 0, 0), FALSE);
        truth(attributes, "m meets n", bags(1, 1, 0), TRUE);
        truth(attributes, "m meets n", bags(1, 2, 0), FALSE);
    }

    // "not: TRUE and FALSE change places. or: TRUE if one is, else an ERROR if one is, else FALSE; and: .."
    private static void notOrAnd() {
        String[] words = { "false", "true", "error" };
        int[] changed = { TRUE, FALSE, ERROR };
        for (int i = 0; i < 3; i++) {
            truth("", "not " + words[i], bags(), changed[i]);
            truth("", "not not " + words[i], bags(), i);
            for (int j = 0; j < 3; j++) {
                for (int k = 0; k < 3; k++) {
                    boolean anyTrue = i == TRUE || j == TRUE || k == TRUE;
                    boolean anyFalse = i == FALSE || j == FALSE || k == FALSE;
                    boolean anyError = i == ERROR || j == ERROR || k == ERROR;
                    String or = words[i] + " or " + words[j] + " or " + words[k];
                    truth("", or, bags(), anyTrue ? TRUE : anyError ? ERROR : FALSE);
                    String and = words[i] + " and " + words[j] + " and " + words[k];
                    truth("", and, bags(), anyFalse ? FALSE : anyError ? ERROR : TRUE);
                }
            }
        }
    }

    // An or, an and with 399 that it joins: the last one settles it, too.
    private static void longJoints() {
        String errors = Check.times(398, "error or ");
        truth("", errors + "true", bags(), TRUE);
        truth("", errors + "false", bags(), ERROR);
        truth("", "true or " + Check.times(397, "error or ") + "false", bags(), TRUE);
        truth("", Check.times(398, "false or ") + "false", bags(), FALSE);
        truth("", Check.times(398, "error and ") + "false", bags(), FALSE);
        truth("", Check.times(398, "error and ") + "true", bags(), ERROR);
        truth("", Check.times(398, "true and ") + "true", bags(), TRUE);
    }

    // Twenty brackets, each with an or and an and around the next.
    private static void deepestExpressions() {
        for (String inmost : new String[] { "true", "false", "error" }) {
            int due = inmost.equals("true") ? TRUE : inmost.equals("false") ? FALSE : ERROR;
            String start = "false or true and(";
            truth("", Check.times(20, start) + "false or true and " + inmost + Check.times(20, ")"), bags(), due);
            truth("", Check.times(20, "not ") + inmost, bags(), due);
            truth("", Check.times(19, "not ") + inmost, bags(), due == ERROR ? ERROR : 1 - due);
            truth("", Check.times(10, "not(false or ") + inmost + Check.times(10, ")"), bags(), due);
        }
    }

    // "A rule: its expression (TRUE without one) TRUE: PERMIT or DENY ..; FALSE: NEITHER; ERROR: PERMIT?, DENY?."
    private static void rules() {
        PolicyJudge x = CHECK.loaded("set s one{permit;deny;permit for true;deny for true;permit for false;deny for false;"
            + "permit for error;deny for error;}");
        x.decide(0);
        int[] due = { PERMIT, DENY, PERMIT, DENY, NEITHER, NEITHER, PERMIT_MAYBE, DENY_MAYBE };
        int[] truths = { TRUE, TRUE, TRUE, TRUE, FALSE, FALSE, ERROR, ERROR };
        for (int i = 0; i < due.length; i++) {
            CHECK.due("rule " + i, x.decided(0, i + 1), due[i]);
            CHECK.due("truth of rule " + i, x.truth(0, i + 1), truths[i]);
        }
    }

    // "A set: FALSE: NEITHER; TRUE: its children .. combined; ERROR: that, but PERMIT becomes PERMIT?, DENY DENY?."
    private static void setsByTruth() {
        int[] weaker = { NEITHER, PERMIT_MAYBE, DENY_MAYBE, PERMIT_MAYBE, DENY_MAYBE, BOTH_MAYBE };
        for (int d = 0; d < 6; d++) {
            decision("set s first{" + CHILD[d] + "}", d);
            decision("set s first for true{" + CHILD[d] + "}", d);
            decision("set s first for false{" + CHILD[d] + "}", NEITHER);
            decision("set s first for error{" + CHILD[d] + "}", weaker[d]);
        }
        // A set's truth is not that of its children: they are judged on their own.
        PolicyJudge x = CHECK.loaded("set s first for false{permit;deny for error;}");
        x.decide(0);
        CHECK.due("a child of a FALSE set", x.decided(0, 1), PERMIT);
        CHECK.due("a child of a FALSE set", x.decided(0, 2), DENY_MAYBE);
    }

    // ".. else NEITHER", "NEITHER without one", "PERMIT if one is, else DENY": of sets without children.
    private static void setsWithoutChildren() {
        int[] due = { NEITHER, NEITHER, NEITHER, NEITHER, DENY, PERMIT };
        int[] weak = { NEITHER, NEITHER, NEITHER, NEITHER, DENY_MAYBE, PERMIT_MAYBE };
        for (int way = 0; way < 6; way++) {
            decision("set s " + WAYS[way] + "{}", due[way]);
            decision("set s " + WAYS[way] + "{duty permit 1;duty deny 2;}", due[way]);
            decision("set s " + WAYS[way] + " for error{}", weak[way]);
            decision("set s " + WAYS[way] + " for false{}", NEITHER);
        }
    }

    // What stands behind a set is no child of it; nor is there one behind the last of a hundred nodes.
    private static void setsWithoutChildrenBeforeOthers() {
        int[] due = { NEITHER, NEITHER, NEITHER, NEITHER, DENY, PERMIT };
        for (int way = 0; way < 6; way++) {
            for (int d = 0; d < 6; d++) {
                PolicyJudge x = CHECK.loaded("set s first{set t " + WAYS[way] + "{}" + CHILD[d] + "}");
                x.decide(0);
                CHECK.due(WAYS[way] + " before a child that decides " + d, x.decided(0, 1), due[way]);
                PolicyJudge y = CHECK.loaded("set s first{set t " + WAYS[way] + "{permit for false;}" + CHILD[d] + "}");
                y.decide(0);
                CHECK.due(WAYS[way] + " before a child that decides " + d, y.decided(0, 1), due[way]);
            }
            PolicyJudge last = CHECK.loaded("set s first{" + Check.times(98, "deny;") + "set t " + WAYS[way] + "{duty deny 1;}}");
            last.decide(0);
            CHECK.due("the last of a hundred", last.decided(0, 99), due[way]);
        }
        duties("set s denies{set t elsedeny{duty deny 1;}deny with 2;set u elsedeny{duty deny 3;}}", 1, 2, 3);
        duties("set s first{set t elsedeny{duty deny 1;}deny with 2;}", 1);
    }

    private static void setsWithOneChild() {
        String[] due = { "012345", "012345", "012345", "012555", "212222", "112111" };
        for (int way = 0; way < 6; way++) {
            for (int d = 0; d < 6; d++) {
                decision("set s " + WAYS[way] + "{" + CHILD[d] + "}", due[way].charAt(d) - '0');
            }
        }
        // By one a child's expression counts, not what it decides: this one is BOTH?, and TRUE.
        decision("set s one{set t first for true{" + CHILD[5] + "}}", BOTH_MAYBE);
        decision("set s one{set t first{" + CHILD[3] + "}}", PERMIT_MAYBE);
    }

    // "denies: DENY if one is; else BOTH? if one is, or there are DENY? and one of PERMIT, PERMIT?; else .." and
    // "permits: the same with both sides changed": for all that may be among the children, in both orders.
    private static void deniesAndPermits() {
        int[] other = { NEITHER, DENY, PERMIT, DENY_MAYBE, PERMIT_MAYBE, BOTH_MAYBE };
        for (int among = 0; among < 64; among++) {
            StringBuilder up = new StringBuilder();
            StringBuilder down = new StringBuilder();
            int changed = 0;
            for (int d = 0; d < 6; d++) {
                if ((among >> d & 1) != 0) {
                    up.append(CHILD[d]);
                    down.insert(0, CHILD[d]);
                    changed |= 1 << other[d];
                }
            }
            decision("set s denies{" + up + "}", deniesOf(among));
            decision("set s denies{" + down + "}", deniesOf(among));
            decision("set s permits{" + up + "}", other[deniesOf(changed)]);
            decision("set s permits{" + down + "}", other[deniesOf(changed)]);
        }
    }

    private static int deniesOf(int among) {
        boolean permit = (among & 2) != 0;
        boolean deny = (among & 4) != 0;
        boolean permitMaybe = (among & 8) != 0;
        boolean denyMaybe = (among & 16) != 0;
        boolean both = (among & 32) != 0;
        if (deny) {
            return DENY;
        }
        if (both || denyMaybe && (permit || permitMaybe)) {
            return BOTH_MAYBE;
        }
        return denyMaybe ? DENY_MAYBE : permit ? PERMIT : permitMaybe ? PERMIT_MAYBE : NEITHER;
    }

    // "first: the first that is not NEITHER"
    private static void firstThatIsNotNeither() {
        for (int d = 0; d < 6; d++) {
            String neithers = CHILD[0] + "deny for false;set t one{}";
            decision("set s first{" + neithers + CHILD[d] + neithers + "}", d);
            for (int behind = 1; behind < 6; behind++) {
                decision("set s first{" + neithers + CHILD[d] + CHILD[behind] + "}", d == 0 ? behind : d);
            }
        }
        decision("set s first{" + Check.times(98, CHILD[0]) + "deny;}", DENY);
    }

    // "one: BOTH? if the expression of some child is an ERROR, or those of two or more are TRUE; that of the child
    // whose is TRUE; NEITHER without one"
    private static void oneByExpressions() {
        decision("set s one{permit for false;deny for false;}", NEITHER);
        decision("set s one{permit for false;deny;permit for false;}", DENY);
        decision("set s one{permit;permit;}", BOTH_MAYBE);
        decision("set s one{permit;permit for false;permit;}", BOTH_MAYBE);
        decision("set s one{permit;permit;permit;}", BOTH_MAYBE);
        decision("set s one{permit for error;}", BOTH_MAYBE);
        decision("set s one{permit;deny for error;}", BOTH_MAYBE);
        decision("set s one{deny for error;permit;}", BOTH_MAYBE);
        decision("set s one{permit for false;deny for error;permit for false;}", BOTH_MAYBE);
        // Two are TRUE, though they decide nothing; one is an ERROR, though it decides nothing.
        decision("set s one{set t one{}set u one{}}", BOTH_MAYBE);
        decision("set s one{set t one{}permit;}", BOTH_MAYBE);
        decision("set s one{set t one for error{}}", BOTH_MAYBE);
        decision("set s one{permit;set t one for error{}}", BOTH_MAYBE);
        decision("set s one{set t one{}}", NEITHER);
        decision("set s one{set t one for false{permit;}deny;}", DENY);
        decision("set s one for error{deny;}", DENY_MAYBE);
        decision("set s one for error{deny;deny;}", BOTH_MAYBE);
    }

    // "elsedeny: PERMIT if one is, else DENY. elsepermit: DENY if one is, else PERMIT."
    private static void elseDenyAndElsePermit() {
        decision("set s elsedeny{deny;permit for error;set b one{permit;deny;}}", DENY);
        decision("set s elsedeny{deny;deny for error;permit;}", PERMIT);
        decision("set s elsedeny{permit for false;}", DENY);
        decision("set s elsepermit{permit;deny for error;set b one{permit;deny;}}", PERMIT);
        decision("set s elsepermit{permit;permit for error;deny;}", DENY);
        decision("set s elsepermit{deny for false;}", PERMIT);
    }

    // As many children as there may be: the last one counts.
    private static void hundredChildren() {
        String neithers = Check.times(98, "permit for false;");
        for (String way : WAYS) {
            decision("set s " + way + "{" + neithers + "deny;}", DENY);
        }
        decision("set s elsedeny{" + Check.times(98, "deny;") + "permit;}", PERMIT);
        decision("set s permits{" + Check.times(98, "deny;") + "permit;}", PERMIT);
        decision("set s one{" + Check.times(98, "deny for false;") + "deny for error;}", BOTH_MAYBE);
    }

    private static void deepestSets() {
        for (String way : new String[] { "denies", "permits", "first", "one" }) {
            String deep = Check.times(20, "set s " + way + "{");
            decision(deep + "permit;" + Check.times(20, "}"), PERMIT);
            decision(deep + "deny for false;" + Check.times(20, "}"), NEITHER);
            String weak = "set s " + way + " for error{" + Check.times(19, "set s " + way + "{");
            decision(weak + "deny;" + Check.times(20, "}"), DENY_MAYBE);
        }
    }

    private static void duties(String text, int... due) {
        PolicyJudge x = CHECK.loaded(text);
        x.decide(0);
        CHECK.due("duties of " + text, x.duty(0, -1), due.length);
        for (int k = 0; k < due.length && k < x.duty(0, -1); k++) {
            CHECK.due("duty " + k + " of " + text, x.duty(0, k), due[k]);
        }
        CHECK.dueThrow("a duty too far", Check.INDEX, () -> x.duty(0, due.length));
    }

    // "DUTIES of a node that is PERMIT or DENY ..; of all other nodes none"
    private static void dutiesOfPermitAndDenyAlone() {
        String own = "duty permit 8;duty deny 9;";
        String[] child = { "permit for false with 1;", "permit with 1;", "deny with 2;", "permit for error with 3;",
            "deny for error with 4;", "set b one{permit with 5;deny with 6;}" };
        for (int d = 0; d < 6; d++) {
            String text = "set s first{" + own + child[d] + "}";
            if (d == PERMIT) {
                duties(text, 1, 8);
            } else if (d == DENY) {
                duties(text, 2, 9);
            } else {
                duties(text);
            }
            duties("set s first for error{" + own + child[d] + "}");
            duties("set s first for false{" + own + child[d] + "}");
            duties("set s elsedeny for error{" + own + child[d] + "}");
        }
        // A child that is PERMIT? has none, though its set decides PERMIT by another.
        duties("set s permits{permit for error with 1;permit with 2;set t first for error{permit with 3;}}", 2);
    }

    // "of a set those of its children that decide the same, in order .., then its own for that, in order"
    private static void dutiesOfChildrenThatDecideTheSame() {
        duties("set s denies{duty deny 9;permit with 1;deny with 2,3;duty permit 8;deny with 4;duty deny 7;}", 2, 3, 4, 9, 7);
        duties("set s permits{duty permit 9;deny with 1;permit with 2,3;duty deny 8;permit with 4;duty permit 7;}", 2, 3, 4, 9, 7);
        duties("set s elsedeny{deny with 1;deny for error with 2;deny for false with 3;duty deny 4;}", 1, 4);
        duties("set s elsedeny{duty deny 4;duty permit 5;}", 4);
        duties("set s elsepermit{duty deny 4;duty permit 5;}", 5);
        duties("set s elsepermit{permit with 1;permit for error with 2;duty permit 4;}", 1, 4);
        // Of a set that decides the same, in it, only those that decide the same there.
        duties("set s denies{set t permits{deny with 1;permit with 2;}set u denies{deny with 3;permit with 4;duty deny 5;}}", 3, 5);
        duties("set s denies{set t elsedeny{duty deny 1;permit for error with 2;}deny with 3;}", 1, 3);
    }

    // "(by first and one: of the child by which it decides alone)"
    private static void dutiesByFirstAndOne() {
        duties("set s first{permit for false with 1;permit with 2;permit with 3;duty permit 4;}", 2, 4);
        duties("set s first{permit;permit with 3;}");
        duties("set s first{set t permits{permit with 1;permit with 2;}permit with 3;}", 1, 2);
        duties("set s one{deny for false with 1;deny with 2;deny for false with 3;duty deny 4;duty permit 5;}", 2, 4);
        duties("set s one{deny for false with 1;set t denies{deny with 2;deny with 3;}}", 2, 3);
        // A set that decides by another way takes all, behind one that decided by first before.
        duties("set s permits{set t first{permit with 1;permit with 2;}set u permits{permit with 3;permit with 4;}}", 1, 3, 4);
        // What a child decided for another request is not kept.
        PolicyJudge x = CHECK.loaded("attr a 2;set s first{permit for a has 0 with 1;permit for a has 1 with 2;}");
        for (int turn = 0; turn < 4; turn++) {
            x.bag(0, 0, 1 + turn % 2);
            x.decide(0);
            CHECK.due("one duty", x.duty(0, -1), 1);
            CHECK.due("the duty", x.duty(0, 0), 1 + turn % 2);
        }
        x.bag(0, 0, 0);
        x.decide(0);
        CHECK.due("no duty", x.duty(0, -1), 0);
        CHECK.dueThrow("no duty", Check.INDEX, () -> x.duty(0, 0));
    }

    // No duties, and all hundred: the first, the last, none behind it.
    private static void dutiesNoneAndAll() {
        duties("set s first{permit;}");
        duties("set s first{}");
        duties("set s elsedeny{duty permit 1;}");
        int[] due = new int[100];
        StringBuilder with = new StringBuilder("set s first{permit with 900");
        StringBuilder mixed = new StringBuilder("set s permits{");
        for (int k = 0; k < 100; k++) {
            due[k] = 900 + k;
            with.append(k == 0 ? "" : "," + due[k]);
        }
        for (int k = 0; k < 50; k++) {
            mixed.append("permit with ").append(due[k]).append(";duty permit ").append(due[50 + k]).append(";");
        }
        duties(with + ";}", due);
        duties(mixed + "}", due);
        // Twenty sets of which each has some of its own: those inside come first.
        int[] nested = new int[20];
        StringBuilder sets = new StringBuilder();
        for (int k = 0; k < 20; k++) {
            sets.append("set s denies{duty deny ").append(k).append(";");
            nested[19 - k] = k;
        }
        duties(sets + "deny;" + Check.times(20, "}"), nested);
    }
}
