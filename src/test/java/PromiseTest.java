/** For each promise of the document: ordinary inputs, the edges it names, and wrong inputs. */
public final class PromiseTest {
    private static final Class<IndexOutOfBoundsException> INDEX = Check.INDEX;
    private static final Class<IllegalArgumentException> ARGUMENT = Check.ARGUMENT;
    private static final Class<IllegalStateException> STATE = Check.STATE;
    private static final Check CHECK = new Check();

    private static final String ROLES = "attr role 3 many must; attr place 2;\n"
        + "set top denies { duty permit 7; duty deny 8; permit a for role has 1 with 1, 2;"
        + " deny for place is 1; set inner first for role in {0, 2} {"
        + " deny x for not (role only {0} or place none) with 9; permit; }"
        + " set o one { permit for role > 1; permit for place = 0 and role meets place; } }";

    public static void main(String[] args) {
        promise1NewObject();
        promise2Feed();
        promise3End();
        promise4Load();
        promise4LoadOverAndOver();
        promise5Fault();
        promise5FaultOfNamesAndValues();
        promise5FaultOfTooMuch();
        promise5FaultOfDepth();
        promise6Count();
        promise7Node();
        promise8Name();
        promise9Attribute();
        promise10Bag();
        promise11Decide();
        promise11DecideByWays();
        promise12Decided();
        promise13Truth();
        promise13TruthOfTests();
        promise14Duty();
        promise15Same();
        promise16Differ();
        promise17Reach();
        promise18Witness();
        promise19Print();
        promise19PrintBrackets();
        promise20Out();
        promise21Again();
        CHECK.finish("PromiseTest");
    }

    private static void promise1NewObject() {
        PolicyJudge x = new PolicyJudge();
        CHECK.due("NONE", PolicyJudge.NONE, -1);
        CHECK.due("MISFIT", PolicyJudge.MISFIT, -2);
        CHECK.due("TOO_MANY", PolicyJudge.TOO_MANY, -3);
        CHECK.due("new fault", x.fault(), 0);
        for (int text = 0; text < 2; text++) {
            int t = text;
            for (int what = 0; what < 4; what++) {
                CHECK.due("new count", x.count(t, what), 0);
            }
            CHECK.dueThrow("new node", INDEX, () -> x.node(t, 0, 0));
            CHECK.dueThrow("new decide", STATE, () -> x.decide(t));
            CHECK.dueThrow("new print", STATE, () -> x.print(t));
            CHECK.dueThrow("new duty", INDEX, () -> x.duty(t, -1));
        }
        CHECK.dueThrow("new end(1)", ARGUMENT, () -> { x.end(1); return 0; });
        CHECK.dueThrow("new out", INDEX, () -> x.out(0));
        CHECK.dueThrow("new same", STATE, x::same);
        CHECK.dueThrow("new differ", STATE, () -> x.differ(0, 0));
        CHECK.dueThrow("new witness", INDEX, () -> x.witness(0));
        CHECK.due("new again", x.again(), 0);
        CHECK.due("load of an empty tape", x.load(0), -1);
    }

    private static void promise2Feed() {
        PolicyJudge x = new PolicyJudge();
        for (int i = 1; i <= 300; i++) {
            CHECK.due("feed " + i, x.feed(0, -1, 1, 2, 3), 20 * i);
        }
        CHECK.dueThrow("feed beyond 6000", STATE, () -> x.feed(0, 0, 0, 0, 0));
        x.end(5981);
        CHECK.dueThrow("feed to 6001", STATE, () -> x.feed(0, 0, 0, 0, 0));
        x.end(5980);
        CHECK.due("feed to 6000", x.feed(0, 0, 0, 0, 0), 6000);

        PolicyJudge y = new PolicyJudge();
        y.feed(0x73657420, 0x73206f6e, 0x657b7d20, 0x20202020, 0x200a0d09);
        CHECK.due("highest byte first", y.load(0), 1);
        y.feed(0x73657420, 0x73206f6e, 0x657b7d20, 0x20202020, 0x20202080);
        CHECK.due("bytes over 127", y.load(0), -1 - 19);
        CHECK.due("bytes over 127, kind", y.fault(), 1);
    }

    private static void promise3End() {
        PolicyJudge x = new PolicyJudge();
        Check.tape(x, "set s one {} xxxxxxx");
        CHECK.dueThrow("end(-1)", ARGUMENT, () -> { x.end(-1); return 0; });
        CHECK.dueThrow("end(21)", ARGUMENT, () -> { x.end(21); return 0; });
        x.end(20);
        x.end(12);
        CHECK.dueThrow("end(13) of 12", ARGUMENT, () -> { x.end(13); return 0; });
        CHECK.due("what is left", x.load(0), 1);
        Check.tape(x, "setx");
        x.end(3);
        CHECK.due("cut in a word", x.load(0), -4);
        x.feed(0, 0, 0, 0, 0);
        x.end(0);
        CHECK.due("feed behind an empty tape", x.feed(0, 0, 0, 0, 0), 20);
    }

    private static void promise4Load() {
        PolicyJudge x = new PolicyJudge();
        CHECK.due("nodes", Check.load(x, 0, ROLES), 9);
        CHECK.due("the tape is used up", x.feed(0, 0, 0, 0, 0), 20);
        x.bag(0, 0, 3);
        int decided = x.decide(0);
        Check.load(x, 1, ROLES);
        x.same();
        CHECK.due("a witness", x.reach(0, 0, 2), 1);
        int witness = x.witness(0);

        CHECK.due("a fault", Check.load(x, 0, "set s one { ] }"), -13);
        CHECK.due("after a fault: used up", x.feed(0, 0, 0, 0, 0), 20);
        CHECK.due("after a fault: nodes", x.count(0, 1), 9);
        CHECK.due("after a fault: bag", x.attribute(0, 0, 3), 3);
        CHECK.due("after a fault: decided", x.decided(0, 0), decided);
        CHECK.due("after a fault: witness", x.witness(0), witness);
        CHECK.due("after a fault: comparison", x.differ(1, 2), 0);

        CHECK.dueThrow("load(2)", INDEX, () -> x.load(2));
        CHECK.dueThrow("load(-1)", INDEX, () -> x.load(-1));
        CHECK.due("a throwing load keeps the tape", x.feed(0, 0, 0, 0, 0), 40);
        CHECK.due("a throwing load keeps the fault", x.fault(), 1);

        int other = x.decide(1);
        Check.load(x, 0, ROLES);
        CHECK.due("bags are empty", x.attribute(0, 0, 3), 0);
        CHECK.dueThrow("nothing decided", INDEX, () -> x.decided(0, 0));
        CHECK.due("the other text has been decided", x.decided(1, 0), other);
        CHECK.dueThrow("no comparison", STATE, () -> x.differ(0, 0));
        CHECK.dueThrow("no witness", INDEX, () -> x.witness(0));
    }

    // What one load leaves, a fault's too, is not to be seen by those behind it.
    private static void promise4LoadOverAndOver() {
        PolicyJudge x = new PolicyJudge();
        String deep = Check.times(20, "set s one {") + "permit with 4; duty deny 1;" + Check.times(20, "}");
        for (int turn = 0; turn < 4; turn++) {
            CHECK.due("roles", Check.load(x, 0, ROLES), 9);
            for (int what = 0; what < 4; what++) {
                CHECK.due("count " + what, x.count(0, what), new int[] { 2, 9, 11, 5 }[what]);
            }
            CHECK.due("bag", x.bag(0, 0, 5), 0);
            CHECK.due("bag", x.bag(0, 1, 2), 0);
            CHECK.dueThrow("not decided", INDEX, () -> x.decided(0, 0));
            CHECK.due("decide", x.decide(0), 2);
            CHECK.due("a fault", Check.load(x, 0, deep + "}"), -1 - deep.length());
            CHECK.due("a fault deep inside", Check.load(x, 0, deep.substring(0, 220) + "?"), -1 - 220);
            CHECK.due("the text of before", x.decided(0, 0), 2);
            CHECK.due("deep", Check.load(x, 0, deep), 21);
            CHECK.due("no attributes", x.count(0, 0), 0);
            CHECK.due("no parts", x.count(0, 2), 0);
            CHECK.due("duties", x.count(0, 3), 2);
            CHECK.due("no expression", x.node(0, 8, 5), 0);
            CHECK.due("no name", x.name(0, 1, 20, -1), 0);
            loadSmall(x);
        }
        CHECK.fine("set s one {" + Check.times(50, "set s one {}") + "}", 51);
    }

    // With it three texts take turns in the rows of two.
    private static void loadSmall(PolicyJudge x) {
        CHECK.due("small", Check.load(x, 0, "attr a 1; set s one { permit for a none; set t first {} deny x with 1; }"), 4);
        int[] due = { 2, 3, -1, 3, 0, 0, 0, -1, 0, 0, 0, 1, 2, 2, 0, 0, 0, 0, 1, -1, 0, 0, 1, 0 };
        for (int k = 0; k < due.length; k++) {
            CHECK.due("node(0, " + k / 6 + ", " + k % 6 + ")", x.node(0, k / 6, k % 6), due[k]);
        }
        CHECK.due("no name", x.name(0, 1, 1, -1), 0);
        CHECK.due("a name", x.name(0, 1, 3, -1), 1);
        CHECK.due("decide", x.decide(0), 5);
        String printed = "attr a 1;\nset s one {\n  permit for a none;\n  set t first {\n  }\n  deny x with 1;\n}\n";
        CHECK.due("print", Check.printed(x, x.print(0)), printed);
    }

    private static void promise5Fault() {
        PolicyJudge x = new PolicyJudge();
        Check.load(x, 0, "set");
        CHECK.due("fault before", x.fault(), 2);
        Check.load(x, 1, "set s one {}");
        CHECK.due("fault of the latest", x.fault(), 0);

        CHECK.fault("", 2, 0);
        CHECK.fault("set" + Check.times(5994, " ") + "abc", 2, 6000);
        CHECK.fault(Check.times(6000, "{"), 2, 0);
        CHECK.fine("set s one{" + Check.times(5989, "\n") + "}", 1);
        CHECK.fault(" \t\r\n", 2, 4);
        CHECK.fault("_ ", 1, 0);
        CHECK.fault("\u0000", 1, 0);
        CHECK.fault("\u000b", 1, 0);
        CHECK.fault("\u00e4", 1, 0);
        CHECK.fault("set s one {} set", 2, 13);
        CHECK.fault("set s one {} ?", 1, 13);
        CHECK.fault("set s one {};", 2, 12);
        CHECK.fault("Set s one {}", 2, 0);
        CHECK.fault("permit;", 2, 0);
        CHECK.fault("set s {}", 2, 6);
        CHECK.fault("set 12 one {}", 2, 4);
        CHECK.fault("set s one for {}", 2, 14);
        CHECK.fault("set s one for true or {}", 2, 22);
        CHECK.fault("set s one for true {", 2, 20);
        CHECK.fault("set s one for true with 1 {}", 2, 19);
        CHECK.fault("set s one { attr a 1; }", 2, 12);
        CHECK.fault("set s one { permit x for true with 1, 2 }", 2, 40);
        CHECK.fault("set s one { permit 1; }", 2, 19);
        CHECK.fault("set s one { permit permit; }", 2, 19);
        CHECK.fault("set s one { permit with 1 2; }", 2, 26);
        CHECK.fault("set s one { permit with 1000; }", 1, 24);
        CHECK.fault("set s one { permit with 0001; }", 1, 24);
        CHECK.fault("set s one { permit with 1_; }", 1, 24);
        CHECK.fault("set s one { permit with 1x; }", 1, 24);
        CHECK.fine("set s one { permit a_b_c_d_e_f_; }", 2);
        CHECK.fault("set s one { permit a_b_c_d_e_f_g; }", 1, 19);
        CHECK.fault("set abcdefghijklm ?", 1, 4);
        CHECK.fault("set s one { duty permit 1, 2; }", 2, 25);
        CHECK.fault("set s one { duty 1; }", 2, 17);
        CHECK.fault("set s one { permit for not or; }", 2, 27);
        CHECK.fault("set s one { permit for (true; }", 2, 28);
        CHECK.fault("set s one { permit for true); }", 2, 27);
        CHECK.fault("set s one { permit for (); }", 2, 24);
        CHECK.fault("set s one { permit for true and or true; }", 2, 32);
        for (String word : ("attr many must set for permit deny with duty or and not true false error has in only meets"
            + " is none denies permits first one elsedeny elsepermit").split(" ")) {
            CHECK.fault("set " + word + " one {}", 2, 4);
            CHECK.fault("attr " + word + " 1; set s one {}", 2, 5);
            CHECK.fine("set " + word + "x one {}", 1);
        }
    }

    private static void promise5FaultOfNamesAndValues() {
        CHECK.fault("attr a 1; attr a 9; set s one {}", 3, 15);
        CHECK.fine("attr a 1; attr A 1; set s one {}", 1);
        CHECK.fault("attr a 000; set s one {}", 4, 7);
        CHECK.fine("attr a 008; set s one {}", 1);
        CHECK.fault("attr a 10; set s one {}", 4, 7);
        CHECK.fault("attr a 1 must many; set s one {}", 2, 14);
        CHECK.fault("attr a 1 many many; set s one {}", 2, 14);
        CHECK.fault("attr a 1, set s one {}", 2, 8);
        CHECK.fault("attr a many; set s one {}", 2, 7);
        CHECK.fault("set s one { permit for s none; }", 3, 23);
        CHECK.fault("set s one { permit for s; }", 3, 23);
        String start = "attr a 3; attr bb 1; set s one for ";
        int at = start.length();
        CHECK.fault(start + "a has 3 {}", 4, at + 6);
        CHECK.fault(start + "a is 3 {}", 4, at + 5);
        CHECK.fault(start + "bb is 1 {}", 4, at + 6);
        CHECK.fine(start + "a < 999 {}", 1);
        CHECK.fine(start + "a = 3 and a > 8 {}", 1);
        CHECK.fine(start + "a in {2, 1, 0} {}", 1);
        CHECK.fault(start + "a in {2, 1, 02} {}", 4, at + 12);
        CHECK.fault(start + "a only {3} {}", 4, at + 8);
        CHECK.fault(start + "a only {0, 1, 2, 3} {}", 4, at + 17);
        CHECK.fault(start + "a only {0,} {}", 2, at + 10);
        CHECK.fault(start + "a only 0 {}", 2, at + 7);
        CHECK.fault(start + "a only {0 {}", 2, at + 10);
        CHECK.fault(start + "a meets b {}", 3, at + 8);
        CHECK.fault(start + "a meets 1 {}", 2, at + 8);
        CHECK.fine(start + "a meets bb {}", 1);
        CHECK.fault(start + "a none 1 {}", 2, at + 7);
        CHECK.fault(start + "a or bb none {}", 2, at + 2);
        CHECK.fault(start + "a is bb {}", 2, at + 5);
        CHECK.fault(start + "a has {1} {}", 2, at + 6);
        CHECK.fault(start + "a <1x {}", 1, at + 3);
        CHECK.fault(start + "a<1and bb>0 {}", 1, at + 2);
        CHECK.fine(start + "a<1 and bb>0{}", 1);
    }

    private static void promise5FaultOfTooMuch() {
        StringBuilder attributes = new StringBuilder();
        for (int i = 0; i < 8; i++) {
            attributes.append("attr a").append(i).append(" 1; ");
        }
        CHECK.fine(attributes + "set s one {}", 1);
        CHECK.fault(attributes + "attr a0 9", 5, attributes.length());

        String nodes = "set s one {" + Check.times(99, "deny;");
        CHECK.fine(nodes + "}", 100);
        CHECK.fault(nodes + " permit ?", 5, nodes.length() + 1);
        CHECK.fault(nodes + " set ?", 5, nodes.length() + 1);
        CHECK.fine(nodes + " duty permit 1;}", 100);

        String parts = "attr a 1; set s one { permit for true" + Check.times(398, " or true");
        CHECK.fine(parts + "; }", 2);
        CHECK.fault(parts + " or true; }", 5, parts.length() + 4);
        CHECK.fault(parts + " and true; }", 5, parts.length() + 1);
        CHECK.fault(parts + "; permit for a ?", 5, parts.length() + 13);
        CHECK.fault(parts + "; permit for b ?", 3, parts.length() + 13);
        CHECK.fault(parts + "; permit for not ?", 5, parts.length() + 13);
        CHECK.fault(parts + "; permit for (((true", 5, parts.length() + 16);
        CHECK.fault(parts + "; permit for ; }", 2, parts.length() + 13);

        String duties = "set s one { duty deny 1; permit with 1" + Check.times(98, ",1");
        CHECK.fine(duties + "; }", 2);
        CHECK.fault(duties + ", 1; }", 5, duties.length() + 2);
        CHECK.fault(duties + ", x; }", 2, duties.length() + 2);
        CHECK.fault(duties + "; duty permit 5 }", 5, duties.length() + 14);
    }

    private static void promise5FaultOfDepth() {
        String sets = Check.times(20, "set s one {");
        CHECK.fine(sets + Check.times(20, "}"), 20);
        CHECK.fault(sets + "set s one {", 5, sets.length() + 10);
        CHECK.fault(sets + "set s one for (", 5, sets.length() + 14);
        CHECK.fault(sets + "permit for not true;", 5, sets.length() + 11);
        CHECK.fine(sets + "permit for true;" + Check.times(20, "}"), 21);

        String start = "attr a 8 many; set s one for ";
        String open = Check.times(10, "not (");
        CHECK.fine(start + open + "a in {0}" + Check.times(10, ")") + "{}", 1);
        CHECK.fault(start + open + "(a in {0}" + Check.times(11, ")") + "{}", 5, start.length() + open.length());
        CHECK.fault(start + open + "not a in {0}" + Check.times(10, ")") + "{}", 5, start.length() + open.length());
        CHECK.fine(start + Check.times(19, "(") + "not true and (true) or not false" + Check.times(19, ")") + "{}", 1);
    }

    private static void promise6Count() {
        PolicyJudge x = CHECK.loaded(ROLES);
        CHECK.due("attributes", x.count(0, 0), 2);
        CHECK.due("nodes", x.count(0, 1), 9);
        CHECK.due("parts", x.count(0, 2), 11);
        CHECK.due("duties", x.count(0, 3), 5);
        CHECK.due("of no text", x.count(1, 1), 0);
        CHECK.dueThrow("count(2, 0)", INDEX, () -> x.count(2, 0));
        CHECK.dueThrow("count(-1, 0)", INDEX, () -> x.count(-1, 0));
        CHECK.dueThrow("count(0, 4)", INDEX, () -> x.count(0, 4));
        CHECK.dueThrow("count(1, -1)", INDEX, () -> x.count(1, -1));
        PolicyJudge y = CHECK.loaded("set s one for ((true)) or ((true or true) or not (false and true and error)) {}");
        CHECK.due("joints are one part each", y.count(0, 2), 11);
    }

    private static void promise7Node() {
        PolicyJudge x = CHECK.loaded(ROLES);
        int[][] due = {
            { 2, 0, -1, 4, 2, 0 }, { 0, -1, 0, 0, 2, 1 }, { 1, -1, 0, 0, 0, 1 }, { 2, 2, 0, 2, 0, 1 },
            { 1, -1, 3, 0, 1, 1 }, { 0, -1, 3, 0, 0, 0 }, { 2, 3, 0, 2, 0, 0 }, { 0, -1, 6, 0, 0, 1 },
            { 0, -1, 6, 0, 0, 1 },
        };
        for (int i = 0; i < due.length; i++) {
            for (int what = 0; what < 6; what++) {
                CHECK.due("node(0, " + i + ", " + what + ")", x.node(0, i, what), due[i][what]);
            }
        }
        int nodes = due.length;
        CHECK.dueThrow("a node too far", INDEX, () -> x.node(0, nodes, 0));
        CHECK.dueThrow("node -1", INDEX, () -> x.node(0, -1, 0));
        CHECK.dueThrow("what 6", INDEX, () -> x.node(0, 0, 6));
        CHECK.dueThrow("what -1", INDEX, () -> x.node(0, 0, -1));
        CHECK.dueThrow("text 1", INDEX, () -> x.node(1, 0, 0));
        CHECK.dueThrow("text 2", INDEX, () -> x.node(2, 0, 0));
        String[] ways = { "denies", "permits", "first", "one", "elsedeny", "elsepermit" };
        for (int way = 0; way < ways.length; way++) {
            CHECK.due(ways[way], CHECK.loaded("set s " + ways[way] + " {}").node(0, 0, 1), way);
        }
    }

    private static void promise8Name() {
        PolicyJudge x = CHECK.loaded("attr role 3; attr A_9 1; set top one { permit; deny twelve_chars; }");
        CHECK.due("length", x.name(0, 0, 0, -1), 4);
        CHECK.due("byte", x.name(0, 0, 0, 3), 'e');
        CHECK.due("byte", x.name(0, 0, 1, 1), '_');
        CHECK.due("length of a node's", x.name(0, 1, 0, -1), 3);
        CHECK.due("byte of a node's", x.name(0, 1, 0, 0), 't');
        CHECK.due("no name", x.name(0, 1, 1, -1), 0);
        CHECK.due("length of the longest", x.name(0, 1, 2, -1), 12);
        CHECK.due("last of the longest", x.name(0, 1, 2, 11), 's');
        CHECK.fine("attr zZaA09_ 1; set azAZ_90 one { permit ZzZ for zZaA09_ none; }", 2);
        CHECK.dueThrow("no byte", INDEX, () -> x.name(0, 1, 1, 0));
        CHECK.dueThrow("byte too far", INDEX, () -> x.name(0, 0, 0, 4));
        CHECK.dueThrow("byte -2", INDEX, () -> x.name(0, 0, 0, -2));
        CHECK.dueThrow("attribute too far", INDEX, () -> x.name(0, 0, 2, -1));
        CHECK.dueThrow("node too far", INDEX, () -> x.name(0, 1, 3, -1));
        CHECK.dueThrow("node -1", INDEX, () -> x.name(0, 1, -1, -1));
        CHECK.dueThrow("which 2", INDEX, () -> x.name(0, 2, 0, -1));
        CHECK.dueThrow("which -1", INDEX, () -> x.name(0, -1, 0, -1));
        CHECK.dueThrow("no text", INDEX, () -> x.name(1, 0, 0, -1));
        CHECK.dueThrow("text -1", INDEX, () -> x.name(-1, 0, 0, -1));
    }

    private static void promise9Attribute() {
        PolicyJudge x = CHECK.loaded("attr a 3 many; attr b 8 must; attr c 1 many must; attr d 2; set s one {}");
        int[][] due = { { 3, 1, 0 }, { 8, 0, 1 }, { 1, 1, 1 }, { 2, 0, 0 } };
        for (int i = 0; i < 4; i++) {
            for (int what = 0; what < 3; what++) {
                CHECK.due("attribute(0, " + i + ", " + what + ")", x.attribute(0, i, what), due[i][what]);
            }
            CHECK.due("bag", x.attribute(0, i, 3), 0);
        }
        x.bag(0, 1, 128);
        CHECK.due("bag now", x.attribute(0, 1, 3), 128);
        CHECK.dueThrow("too far", INDEX, () -> x.attribute(0, 4, 0));
        CHECK.dueThrow("attribute -1", INDEX, () -> x.attribute(0, -1, 0));
        CHECK.dueThrow("what 4", INDEX, () -> x.attribute(0, 0, 4));
        CHECK.dueThrow("what -1", INDEX, () -> x.attribute(0, 0, -1));
        CHECK.dueThrow("no text", INDEX, () -> x.attribute(1, 0, 0));
        CHECK.dueThrow("text 2", INDEX, () -> x.attribute(2, 0, 0));
    }

    private static void promise10Bag() {
        PolicyJudge x = CHECK.loaded("attr a 3 many; attr b 3 must; attr c 8 many; set s one {}");
        CHECK.due("before", x.bag(0, 0, 7), 0);
        CHECK.due("before", x.bag(0, 0, 5), 7);
        CHECK.due("now", x.attribute(0, 0, 3), 5);
        CHECK.due("one of three", x.bag(0, 1, 4), 0);
        CHECK.due("none, though must", x.bag(0, 1, 0), 4);
        CHECK.due("all eight", x.bag(0, 2, 255), 0);
        CHECK.dueThrow("two of one", ARGUMENT, () -> x.bag(0, 1, 3));
        CHECK.dueThrow("beyond SIZE", ARGUMENT, () -> x.bag(0, 0, 8));
        CHECK.dueThrow("beyond SIZE of one", ARGUMENT, () -> x.bag(0, 1, 8));
        CHECK.dueThrow("mask -1", ARGUMENT, () -> x.bag(0, 0, -1));
        CHECK.dueThrow("the least mask", ARGUMENT, () -> x.bag(0, 1, Integer.MIN_VALUE));
        CHECK.dueThrow("beyond eight", ARGUMENT, () -> x.bag(0, 2, 256));
        CHECK.dueThrow("no attribute", INDEX, () -> x.bag(0, 3, -1));
        CHECK.dueThrow("attribute -1", INDEX, () -> x.bag(0, -1, 0));
        CHECK.dueThrow("no text", INDEX, () -> x.bag(1, 0, -1));
        CHECK.dueThrow("text 2", INDEX, () -> x.bag(2, 0, 0));
        CHECK.due("stays", x.attribute(0, 0, 3), 5);
    }

    private static void promise11Decide() {
        PolicyJudge x = CHECK.loaded("attr a 2 must; set s denies { permit for a has 0; deny for a has 1; }");
        CHECK.due("an error", x.decide(0), 5);
        x.bag(0, 0, 1);
        CHECK.due("a permit", x.decide(0), 1);
        x.bag(0, 0, 2);
        CHECK.due("a deny", x.decide(0), 2);
        CHECK.dueThrow("no text", STATE, () -> x.decide(1));
        CHECK.dueThrow("text 2", INDEX, () -> x.decide(2));
        CHECK.dueThrow("text -1", INDEX, () -> x.decide(-1));
    }

    // For each two children of the six decisions what the six ways make of them, by the document's words.
    private static void promise11DecideByWays() {
        String[] child = {
            "permit for false;", "permit;", "deny;", "permit for error;", "deny for error;",
            "set b one { permit; deny; }",
        };
        String[] denies = { "012345", "112155", "222222", "312355", "452545", "552555" };
        String[] permits = { "012345", "111111", "212525", "315355", "412545", "515555" };
        for (int i = 0; i < 6; i++) {
            for (int j = 0; j < 6; j++) {
                String in = " { " + child[i] + " " + child[j] + " }";
                String two = i + "" + j;
                CHECK.due("denies " + two, CHECK.loaded("set s denies" + in).decide(0), denies[i].charAt(j) - '0');
                CHECK.due("permits " + two, CHECK.loaded("set s permits" + in).decide(0), permits[i].charAt(j) - '0');
                CHECK.due("first " + two, CHECK.loaded("set s first" + in).decide(0), i == 0 ? j : i);
                boolean error = i == 3 || i == 4 || j == 3 || j == 4;
                int one = error || i != 0 && j != 0 ? 5 : i + j;
                CHECK.due("one " + two, CHECK.loaded("set s one" + in).decide(0), one);
                CHECK.due("elsedeny " + two, CHECK.loaded("set s elsedeny" + in).decide(0), i == 1 || j == 1 ? 1 : 2);
                CHECK.due("elsepermit " + two, CHECK.loaded("set s elsepermit" + in).decide(0), i == 2 || j == 2 ? 2 : 1);
            }
            int weaker = i == 1 || i == 2 ? i + 2 : i;
            CHECK.due("error set " + i, CHECK.loaded("set s first for error { " + child[i] + " }").decide(0), weaker);
            CHECK.due("false set " + i, CHECK.loaded("set s first for false { " + child[i] + " }").decide(0), 0);
        }
        String[] ways = { "denies", "permits", "first", "one", "elsedeny", "elsepermit" };
        for (int way = 0; way < 6; way++) {
            int empty = way == 4 ? 2 : way == 5 ? 1 : 0;
            CHECK.due("empty " + ways[way], CHECK.loaded("set s " + ways[way] + " {}").decide(0), empty);
            int weak = way == 4 ? 4 : way == 5 ? 3 : 0;
            CHECK.due("empty error " + ways[way], CHECK.loaded("set s " + ways[way] + " for error {}").decide(0), weak);
        }
        CHECK.due("BOTH? before DENY?", CHECK.loaded("set s denies { deny for error; set b one for true { permit; deny; } }").decide(0), 5);
        CHECK.due("one: a child that is TRUE and NEITHER", CHECK.loaded("set s one { set t one { } }").decide(0), 0);
        CHECK.due("one: an error behind two", CHECK.loaded("set s one { deny for false; set t first { permit for error; } }").decide(0), 3);
    }

    private static void promise12Decided() {
        PolicyJudge x = CHECK.loaded("attr a 2; set s first for a has 1 { permit for a has 1; deny; set t elsedeny for a none { } }");
        CHECK.dueThrow("nothing decided", INDEX, () -> x.decided(0, 0));
        x.decide(0);
        int[] due = { 0, 0, 2, 2 };
        for (int i = 0; i < 4; i++) {
            CHECK.due("decided " + i, x.decided(0, i), due[i]);
        }
        x.bag(0, 0, 2);
        CHECK.due("still", x.decided(0, 0), 0);
        x.decide(0);
        CHECK.due("then", x.decided(0, 0), 1);
        CHECK.due("then", x.decided(0, 3), 0);
        CHECK.dueThrow("too far", INDEX, () -> x.decided(0, 4));
        CHECK.dueThrow("node -1", INDEX, () -> x.decided(0, -1));
        CHECK.dueThrow("no text", INDEX, () -> x.decided(1, 0));
        CHECK.dueThrow("text 2", INDEX, () -> x.decided(2, 0));
    }

    private static void promise13Truth() {
        PolicyJudge x = CHECK.loaded("attr a 2; set s first { permit for false; deny for true; permit for error; permit; set t one for a is 0 {} }");
        CHECK.dueThrow("nothing decided", INDEX, () -> x.truth(0, 0));
        x.decide(0);
        int[] due = { 1, 0, 1, 2, 1, 2 };
        for (int i = 0; i < 6; i++) {
            CHECK.due("truth " + i, x.truth(0, i), due[i]);
        }
        CHECK.dueThrow("too far", INDEX, () -> x.truth(0, 6));
        CHECK.dueThrow("node -1", INDEX, () -> x.truth(0, -1));
        CHECK.dueThrow("no text", INDEX, () -> x.truth(1, 0));
        CHECK.dueThrow("text -1", INDEX, () -> x.truth(-1, 0));
        String[] words = { "false", "true", "error" };
        for (int i = 0; i < 3; i++) {
            CHECK.due("not " + words[i], truthOf("not " + words[i]), i == 2 ? 2 : 1 - i);
            for (int j = 0; j < 3; j++) {
                int or = i == 1 || j == 1 ? 1 : Math.max(i, j);
                int and = i == 0 || j == 0 ? 0 : Math.max(i, j);
                CHECK.due("or", truthOf(words[i] + " or " + words[j]), or);
                CHECK.due("and", truthOf(words[i] + " and " + words[j]), and);
            }
        }
        CHECK.due("and before or", truthOf("true or true and false"), 1);
        CHECK.due("brackets", truthOf("(true or true) and false"), 0);
        CHECK.due("not of the next part", truthOf("not false and false"), 0);
        CHECK.due("not of brackets", truthOf("not (false and false)"), 1);
        CHECK.due("error first", truthOf("error or false or true"), 1);
        CHECK.due("error first", truthOf("error and true and false"), 0);
    }

    private static int truthOf(String expression) {
        PolicyJudge x = CHECK.loaded("set s one for " + expression + " {}");
        x.decide(0);
        return x.truth(0, 0);
    }

    private static void promise13TruthOfTests() {
        // Each test's truth for bags of a: none, {0}, {1}, {0, 1}; the second row with must.
        String[][] tests = {
            { "a has 0", "0101", "2101" }, { "a in {1, 2}", "0011", "2011" }, { "a only {1}", "1010", "2010" },
            { "a < 1", "1000", "1000" }, { "a = 1", "0110", "0110" }, { "a > 1", "0001", "0001" },
            { "a is 1", "2012", "2012" }, { "a none", "1000", "1000" }, { "a meets b", "0011", "2011" },
            { "b meets a", "0011", "2011" }, { "a meets c", "2222", "2222" }, { "c meets a", "2222", "2222" },
            { "a = 0", "1000", "1000" }, { "a > 999", "0000", "0000" }, { "a < 999", "1111", "1111" },
            { "a meets a", "0111", "2111" }, { "a only {2, 0, 1}", "1111", "2111" },
        };
        for (String[] test : tests) {
            for (int must = 0; must < 2; must++) {
                PolicyJudge x = CHECK.loaded("attr a 3 many" + (must == 1 ? " must" : "")
                    + "; attr b 2; attr c 1 must; set s one for " + test[0] + " {}");
                x.bag(0, 1, 2);
                for (int mask = 0; mask < 4; mask++) {
                    x.bag(0, 0, mask);
                    x.decide(0);
                    CHECK.due(test[0] + " of mask " + mask + ", must " + must, x.truth(0, 0), test[1 + must].charAt(mask) - '0');
                }
            }
        }
    }

    private static void duties(String text, int... due) {
        PolicyJudge x = CHECK.loaded(text);
        x.decide(0);
        x.decide(0);
        CHECK.due("duties of " + text, x.duty(0, -1), due.length);
        for (int k = 0; k < Math.min(due.length, x.duty(0, -1)); k++) {
            CHECK.due("duty " + k + " of " + text, x.duty(0, k), due[k]);
        }
        CHECK.dueThrow("a duty too far", INDEX, () -> x.duty(0, due.length));
        CHECK.dueThrow("duty -2", INDEX, () -> x.duty(0, -2));
    }

    private static void promise14Duty() {
        PolicyJudge x = CHECK.loaded("set s one { permit with 5; }");
        CHECK.dueThrow("nothing decided", INDEX, () -> x.duty(0, -1));
        CHECK.dueThrow("no text", INDEX, () -> x.duty(1, -1));
        CHECK.dueThrow("text 2", INDEX, () -> x.duty(2, -1));

        String in = " { duty deny 1; duty permit 2; permit with 3, 3; deny with 4; duty permit 0; permit with 999; "
            + "set t permits { duty permit 6; permit with 7; } duty deny 8; }";
        duties("set s denies" + in, 4, 1, 8);
        duties("set s permits" + in, 3, 3, 999, 7, 6, 2, 0);
        duties("set s first" + in, 3, 3, 2, 0);
        duties("set s one" + in);
        duties("set s elsedeny" + in, 3, 3, 999, 7, 6, 2, 0);
        duties("set s elsepermit" + in, 4, 1, 8);
        duties("set s permits for error" + in);
        duties("set s permits for false" + in);
        duties("set s one { permit for false with 1; deny with 2; duty permit 3; duty deny 4; }", 2, 4);
        duties("set s elsedeny { permit for error with 1; deny for false with 2; duty deny 4; }", 4);
        duties("set s first { permit for false with 1; set t denies for error { deny with 1; } deny with 2; duty deny 4; }");
        duties("set s first { set t denies { deny with 1; deny with 2; permit with 3; } deny with 5; duty deny 4; }", 1, 2, 4);
        duties("set s denies { set t first { permit with 1; deny with 2; } set u one for error { permit with 7; } permit with 5; }", 1, 5);
        duties(Check.times(20, "set s first { duty permit 1; ") + "permit with 2;" + Check.times(20, "}"),
            2, 1, 1, 1, 1, 1, 1, 1, 1, 1, 1, 1, 1, 1, 1, 1, 1, 1, 1, 1, 1);
        StringBuilder hundred = new StringBuilder("set s permits { permit with 0");
        int[] due = new int[100];
        for (int i = 1; i < 100; i++) {
            hundred.append(',').append(i);
            due[i] = i;
        }
        duties(hundred + "; }", due);
    }

    private static void promise15Same() {
        PolicyJudge alone = CHECK.loaded("set s one {}");
        CHECK.dueThrow("text 1 is not there", STATE, alone::same);
        PolicyJudge other = new PolicyJudge();
        Check.load(other, 1, "set s one {}");
        CHECK.dueThrow("text 0 is not there", STATE, other::same);

        CHECK.due("no attributes", CHECK.both("set s one {}", "set t first { permit for false; }").same(), 1);
        CHECK.due("no attributes", CHECK.both("set s one {}", "set t first { permit; }").same(), 0);
        String a = "attr a 2 many; attr b 3; ";
        CHECK.due("alike", CHECK.both(a + "set s one { permit for a has 0 and b has 1; }",
            "attr b 3; attr a 2 many; set s first for b has 1 { permit for a has 0; }").same(), 1);
        String end = "set s one {}";
        CHECK.due("fewer", CHECK.both(a + end, "attr a 2 many;" + end).same(), -2);
        CHECK.due("more", CHECK.both("attr a 2 many;" + end, a + end).same(), -2);
        CHECK.due("another name", CHECK.both(a + end, "attr a 2 many; attr c 3;" + end).same(), -2);
        CHECK.due("another name alone", CHECK.both("attr a 2;" + end, "attr b 2;" + end).same(), -2);
        CHECK.due("another SIZE", CHECK.both(a + end, "attr a 2 many; attr b 2;" + end).same(), -2);
        CHECK.due("another many", CHECK.both(a + end, "attr a 2 many; attr b 3 many;" + end).same(), -2);
        CHECK.due("another must", CHECK.both(a + end, "attr a 2 many; attr b 3 must;" + end).same(), -2);

        String most = "attr a 8 many; attr b 4 many; ";
        CHECK.due("4096", CHECK.both(most + end, most + end).same(), 1);
        String more = "attr a 8 many; attr b 3 many; attr c 1; attr d 2; ";
        CHECK.due("6144", CHECK.both(more + end, more + end).same(), -3);
        String huge = "attr a 8 many; attr b 8 many; attr c 8 many; attr d 8 many; attr e 8 many; attr f 8 many; attr g 8 many; attr h 8 many; ";
        CHECK.due("2 to the 64", CHECK.both(huge + end, huge + end).same(), -3);
        CHECK.due("misfits before too many", CHECK.both(huge + end, more + end).same(), -2);
        sameKeepsAndForgets();
    }

    private static void sameKeepsAndForgets() {
        PolicyJudge x = CHECK.both("attr a 2; set s one { permit for a has 1; }", "attr a 2; set s one { permit for a is 1; }");
        x.bag(0, 0, 2);
        x.bag(1, 0, 1);
        x.decide(0);
        CHECK.due("differ", x.same(), 0);
        CHECK.due("witness", x.witness(0), 0);
        CHECK.due("bag of 0", x.attribute(0, 0, 3), 2);
        CHECK.due("bag of 1", x.attribute(1, 0, 3), 1);
        CHECK.due("decided", x.decided(0, 1), 1);
        CHECK.dueThrow("text 1 was not decided", INDEX, () -> x.decided(1, 0));

        PolicyJudge y = CHECK.both("attr a 2; set s one {}", "attr a 2; set s first {}");
        y.reach(0, 0, 0);
        CHECK.due("witness of reach", y.witness(0), 0);
        CHECK.due("alike", y.same(), 1);
        CHECK.dueThrow("no witness any more", INDEX, () -> y.witness(0));

        PolicyJudge w = CHECK.both("attr a 2; set s one { permit for a none or a has 1; }",
            "attr a 2; set s first { deny for not a has 0; }");
        w.reach(0, 0, 0);
        CHECK.due("from the first request on", w.same(), 0);
        CHECK.due("the first one", w.witness(0), 0);

        PolicyJudge z = CHECK.both("attr a 2; set s one {}", "attr a 3; set s first {}");
        z.reach(0, 0, 0);
        CHECK.due("misfit", z.same(), -2);
        CHECK.due("witness stays", z.witness(0), 0);
    }

    private static void promise16Differ() {
        PolicyJudge x = CHECK.both("attr a 3; attr b 2 many; set s first { permit for a is 1; deny for b has 0; }",
            "attr b 2 many; attr a 3; set s first { permit for a has 1; deny for b has 0; }");
        CHECK.dueThrow("not compared", STATE, () -> x.differ(0, 0));
        CHECK.dueThrow("no such decision, not compared", INDEX, () -> x.differ(6, 0));
        x.same();
        int[] due = new int[36];
        due[0 * 6 + 0] = 4;
        due[1 * 6 + 1] = 4;
        due[2 * 6 + 2] = 4;
        due[3 * 6 + 0] = 2;
        due[3 * 6 + 2] = 2;
        for (int k = 0; k < 36; k++) {
            CHECK.due("differ " + k, x.differ(k / 6, k % 6), due[k]);
        }
        CHECK.dueThrow("no decision", INDEX, () -> x.differ(6, 0));
        CHECK.dueThrow("no decision", INDEX, () -> x.differ(0, 6));
        CHECK.dueThrow("no decision", INDEX, () -> x.differ(-1, 0));
        CHECK.dueThrow("no decision", INDEX, () -> x.differ(0, -1));
        x.same();
        CHECK.due("counted anew", x.differ(0, 0), 4);
        x.reach(0, 0, 5);
        Check.load(x, 1, "set");
        CHECK.due("stays", x.differ(3, 2), 2);
        Check.load(x, 1, "attr a 1; set s one {}");
        CHECK.dueThrow("not since the load", STATE, () -> x.differ(0, 0));
        x.same();
        CHECK.dueThrow("a misfit is none", STATE, () -> x.differ(0, 0));
    }

    private static void promise17Reach() {
        String text = "attr a 3 many; attr b 2 must; set s first for a > 1 { deny for b has 1; permit for a has 2; }";
        PolicyJudge x = CHECK.loaded(text);
        CHECK.due("a deny", x.reach(0, 0, 2), 1);
        CHECK.due("its first", x.witness(0), 3);
        CHECK.due("its second", x.witness(1), 2);
        CHECK.due("a child's, whatever the set", x.reach(0, 1, 2), 1);
        CHECK.due("its first", x.witness(0), 0);
        CHECK.due("its second", x.witness(1), 2);
        CHECK.due("DENY?", x.reach(0, 0, 4), 1);
        CHECK.due("its first", x.witness(0), 3);
        CHECK.due("its second", x.witness(1), 0);
        CHECK.due("a permit", x.reach(0, 0, 1), 1);
        CHECK.due("its first", x.witness(0), 5);
        CHECK.due("its second", x.witness(1), 1);
        CHECK.due("neither", x.reach(0, 0, 0), 1);
        CHECK.due("its first", x.witness(0), 0);
        CHECK.due("never", x.reach(0, 0, 5), 0);
        CHECK.dueThrow("no witness any more", INDEX, () -> x.witness(0));
        CHECK.due("bags stay", x.attribute(0, 0, 3), 0);
        CHECK.dueThrow("nothing was decided", INDEX, () -> x.decided(0, 0));
        CHECK.dueThrow("no decision 6", INDEX, () -> x.reach(0, 0, 6));
        CHECK.dueThrow("no decision -1", INDEX, () -> x.reach(0, 0, -1));
        CHECK.dueThrow("no node 3", INDEX, () -> x.reach(0, 3, 0));
        CHECK.dueThrow("no node -1", INDEX, () -> x.reach(0, -1, 0));
        CHECK.dueThrow("no text", INDEX, () -> x.reach(1, 0, 0));
        CHECK.dueThrow("text 2", INDEX, () -> x.reach(2, 0, 0));

        Check.load(x, 1, "attr a 8 many; attr b 4 many; attr c 1; set s one {}");
        x.reach(0, 0, 2);
        CHECK.due("too many", x.reach(1, 0, 0), -3);
        CHECK.due("the witness stays", x.witness(0), 3);
        PolicyJudge all = CHECK.loaded("attr a 8 many; attr b 4 many; set s one { permit for a > 7 and b > 3; }");
        CHECK.due("the last of 4096", all.reach(0, 0, 1), 1);
        CHECK.due("its first", all.witness(0), 255);
        CHECK.due("its second", all.witness(1), 15);
        PolicyJudge none = CHECK.loaded("set s one { permit; }");
        CHECK.due("one request", none.reach(0, 0, 1), 1);
        CHECK.dueThrow("no attribute in it", INDEX, () -> none.witness(0));
    }

    private static void promise18Witness() {
        PolicyJudge x = CHECK.both("attr a 2; attr b 4; set s one { deny for b has 2 and a has 1; }",
            "attr b 4; attr a 2; set s one {}");
        CHECK.dueThrow("none yet", INDEX, () -> x.witness(0));
        x.same();
        CHECK.due("in the order of text 0", x.witness(0), 2);
        CHECK.due("in the order of text 0", x.witness(1), 4);
        CHECK.dueThrow("too far", INDEX, () -> x.witness(2));
        CHECK.dueThrow("attribute -1", INDEX, () -> x.witness(-1));
        Check.load(x, 1, "attr b 4; attr a 2; attr c 1; set s one { permit for b has 3 and a has 0 and c > 0; }");
        CHECK.dueThrow("none since the load", INDEX, () -> x.witness(0));
        x.reach(1, 0, 1);
        CHECK.due("in the order of text 1", x.witness(0), 8);
        CHECK.due("in the order of text 1", x.witness(1), 1);
        CHECK.due("in the order of text 1", x.witness(2), 1);
        CHECK.dueThrow("too far", INDEX, () -> x.witness(3));
        x.bag(1, 0, 2);
        x.decide(1);
        CHECK.due("stays", x.witness(0), 8);
    }

    private static void printed(String text, String due) {
        PolicyJudge x = CHECK.loaded(text);
        int length = x.print(0);
        CHECK.due("length printed of " + text, length, due.length());
        CHECK.due("printed of " + text, Check.printed(x, length), due);
        x.again();
        x.load(1);
        CHECK.due("printed again", Check.printed(x, x.print(1)), due);
    }

    private static void promise19Print() {
        printed("set s one{}", "set s one {\n}\n");
        printed(ROLES,
            "attr role 3 many must;\nattr place 2;\nset top denies {\n  duty permit 7;\n  duty deny 8;\n"
            + "  permit a for role has 1 with 1, 2;\n  deny for place is 1;\n"
            + "  set inner first for role in {0, 2} {\n"
            + "    deny x for not (role only {0} or place none) with 9;\n    permit;\n  }\n"
            + "  set o one {\n    permit for role > 1;\n    permit for place = 0 and role meets place;\n  }\n}\n");
        printed("attr a 008 many;attr b 1 must;set s elsepermit for a<00{permit with 007,10,100;duty deny 000;"
            + "set t elsedeny{set u permits{}duty permit 999;}set v first{}duty permit 1;deny;}",
            "attr a 8 many;\nattr b 1 must;\nset s elsepermit for a < 0 {\n  duty deny 0;\n  duty permit 1;\n"
            + "  permit with 7, 10, 100;\n  set t elsedeny {\n    duty permit 999;\n    set u permits {\n    }\n  }\n"
            + "  set v first {\n  }\n  deny;\n}\n");
        printed("attr a 8; set s denies for a in {7,0,3} or a only{1}and a=1 { permit n with 1; }",
            "attr a 8;\nset s denies for a in {0, 3, 7} or a only {1} and a = 1 {\n  permit n with 1;\n}\n");
        PolicyJudge x = CHECK.loaded("set s one {}");
        CHECK.dueThrow("no text", STATE, () -> x.print(1));
        CHECK.dueThrow("text 2", INDEX, () -> x.print(2));
        CHECK.dueThrow("text -1", INDEX, () -> x.print(-1));
    }

    private static void brackets(String told, String due) {
        printed("set s one for " + told + " {}", "set s one for " + due + " {\n}\n");
    }

    private static void promise19PrintBrackets() {
        brackets("((true))", "true");
        brackets("(true or false)", "true or false");
        brackets("(true and false)or(error)", "true and false or error");
        brackets("true and(false or error)", "true and (false or error)");
        brackets("true or(false or error)", "true or (false or error)");
        brackets("(true and(false and error))", "true and (false and error)");
        brackets("not(true)", "not true");
        brackets("not(not(true or false))", "not not (true or false)");
        brackets("not((true and false))", "not (true and false)");
        brackets("not true or false", "not true or false");
        brackets("(not true)and(not(false))", "not true and not false");
        brackets("((true or (false and error)) and not (true)) or (true)", "(true or false and error) and not true or true");
    }

    private static void promise20Out() {
        PolicyJudge x = CHECK.loaded("set s one {}");
        CHECK.dueThrow("nothing printed", INDEX, () -> x.out(0));
        CHECK.due("length", x.print(0), 14);
        CHECK.due("first", x.out(0), 's');
        CHECK.due("last", x.out(13), 10);
        CHECK.dueThrow("too far", INDEX, () -> x.out(14));
        CHECK.dueThrow("byte -1", INDEX, () -> x.out(-1));
        CHECK.dueThrow("no text to print", STATE, () -> x.print(1));
        Check.load(x, 0, "set longer one {}");
        CHECK.due("stays", x.out(4), 's');
        x.print(0);
        CHECK.due("the latest", x.out(4), 'l');
    }

    private static void promise21Again() {
        PolicyJudge x = CHECK.loaded("attr a 1; set s one{permit;}");
        Check.tape(x, "something else");
        CHECK.due("nothing printed", x.again(), 0);
        CHECK.due("in place of what was there", x.feed(0, 0, 0, 0, 0), 20);
        int length = x.print(0);
        CHECK.due("length", x.again(), length);
        CHECK.due("loads", x.load(1), 2);
        CHECK.due("the tape is used up", x.load(1), -1);
        CHECK.due("again", x.again(), length);
        CHECK.due("what was printed stays", x.out(0), 'a');

        // Twenty sets, duties and rules deep in them: 40 blanks before each line.
        String deep = Check.times(20, "set s one{") + Check.times(80, "deny;") + Check.times(100, "duty deny 1;") + Check.times(20, "}");
        PolicyJudge y = CHECK.loaded(deep);
        int due = 80 * (40 + 6) + 100 * (40 + 13);
        for (int i = 0; i < 20; i++) {
            due += 2 * 2 * i + 12 + 2;
        }
        CHECK.due("much", y.print(0), due);
        CHECK.due("its end", y.out(due - 1), 10);
        Check.tape(y, "set");
        CHECK.dueThrow("more than 6000", STATE, y::again);
        CHECK.due("the tape stays", y.load(1), -4);

        sixThousand();
    }

    // What is printed has 5999, 6000 and 6001 bytes.
    private static void sixThousand() {
        for (int more = -1; more <= 1; more++) {
            String head = "attr a 8 many; set s one {";
            String one = "a in {0, 1, 2, 3, 4, 5, 6, 7}";
            StringBuilder text = new StringBuilder(head + "permit for " + one);
            // Printed: two lines' ends, blanks before the rule, and lists as they are told here.
            int printed = "attr a 8 many;\nset s one {\n  permit for ".length() + one.length() + ";\n}\n".length();
            while (printed + 2 * (one.length() + 4) < 6000) {
                text.append(" or ").append(one);
                printed += one.length() + 4;
            }
            int gap = 6000 + more - printed;
            text.append(" with 1");
            gap -= " with 1".length();
            while (gap > 5) {
                text.append(", 1");
                gap -= 3;
            }
            text.append(gap == 3 ? ", 1" : gap == 4 ? ", 10" : ", 100").append(";}");
            PolicyJudge x = CHECK.loaded(text.toString());
            CHECK.due("printed", x.print(0), 6000 + more);
            if (more > 0) {
                CHECK.dueThrow("6001", STATE, x::again);
            } else {
                CHECK.due("6000 at most", x.again(), 6000 + more);
                CHECK.due("and read", x.load(0), 2);
            }
        }
    }
}
