import java.util.List;

/**
 * The document's section 1: for each sentence that names a boundary, what is just inside it and just outside.
 * A text in which a ^ stands has its fault there.
 */
public final class TextEdgesTest {
    private static final Check CHECK = new Check();
    private static final String[] WORDS = ("attr many must set for permit deny with duty or and not true false error has in"
        + " only meets is none denies permits first one elsedeny elsepermit").split(" ");
    private static final String[] WAYS = { "denies", "permits", "first", "one", "elsedeny", "elsepermit" };
    private static final String SIGNS = "(){};,<=>";

    public static void main(String[] args) {
        tapeOfSixThousand();
        readingUsesTheTapeUp();
        everyByteBetweenWords();
        everyByteAtTheBegin();
        everyByteInAWord();
        everyByteBehindANumber();
        blanksNoneOrMore();
        wordsOfTwelve();
        numbersOfThreeDigits();
        lettersGreatAndSmall();
        wordsThatAreNoNames();
        textAndAttributes();
        policies();
        rulesAndDuties();
        expressions();
        testsAndLists();
        testsThatStopTooEarly();
        membersThatStopTooEarly();
        sizes();
        valuesOfEachSize();
        valuesTwice();
        namesToldBefore();
        namesOfSetsAndRules();
        nodesAtMost();
        nodesAsTheyBegin();
        partsThatCount();
        partsAtMostOfEachSort();
        partsAtMostInJoints();
        attributesAtMost();
        dutiesAtMost();
        allAtMost();
        depthOfSets();
        depthOfParts();
        depthEnds();
        placeOfTheEnd();
        leastKindOfOneToken();
        firstFaultFromTheLeft();
        CHECK.finish("TextEdgesTest");
    }

    private static void fine(String text, int nodes) {
        CHECK.fine(text, nodes);
    }

    private static void faultAt(String marked, int kind) {
        CHECK.faultAt(marked, kind);
    }

    private static boolean isBlank(int b) {
        return b == 9 || b == 10 || b == 13 || b == 32;
    }

    private static boolean isLetter(int b) {
        return "ABCDEFGHIJKLMNOPQRSTUVWXYZabcdefghijklmnopqrstuvwxyz".indexOf(b) >= 0;
    }

    private static boolean isDigit(int b) {
        return "0123456789".indexOf(b) >= 0;
    }

    private static boolean isSign(int b) {
        return SIGNS.indexOf(b) >= 0;
    }

    // "THE TAPE has at most 6000 bytes": all of them are read, the last one, too.
    private static void tapeOfSixThousand() {
        for (int length = 5999; length <= 6000; length++) {
            String blanks = Check.times(length - 11, " ");
            fine("set s one{" + blanks + "}", 1);
            faultAt("set s one{" + blanks + "^?", 1);
            faultAt("set s one{" + blanks + "^7", 2);
            faultAt("set s one{" + blanks + " ^", 2);
        }
        String rules = "set s one{" + Check.times(99, "deny;");
        fine(rules + Check.times(6000 - rules.length() - 1, "\t") + "}", 100);
        faultAt("^" + Check.times(6000, "x"), 1);
        faultAt("^" + Check.times(6000, "1"), 1);
        faultAt("set s one{}^" + Check.times(5989, "}"), 2);
        faultAt(Check.times(6000, "\n") + "^", 2);
    }

    // "what reads it uses it up"
    private static void readingUsesTheTapeUp() {
        for (String text : new String[] { "set s one{}", "set s one{} ?", "", "  " }) {
            PolicyJudge x = new PolicyJudge();
            Check.load(x, 1, text);
            CHECK.dueThrow("nothing is left of " + text, Check.ARGUMENT, () -> endAt(x, 1));
            CHECK.due("an empty tape's load", x.load(1), -1);
            CHECK.due("an empty tape's fault", x.fault(), 2);
            CHECK.due("the first bytes of another one", x.feed(0x73657420, 0x73206f6e, 0x657b7d20, 0x20202020, 0x20202020), 20);
            CHECK.due("and nothing before them", x.load(0), 1);
        }
    }

    private static int endAt(PolicyJudge x, int n) {
        x.end(n);
        return 0;
    }

    // "TOKENS, between BLANKS (9, 10, 13, 32 ..)", "1 a byte that begins no token"
    private static void everyByteBetweenWords() {
        for (int b = 0; b < 256; b++) {
            String text = "set" + (char) b + "s one{}";
            if (isBlank(b)) {
                fine(text, 1);
            } else if (isLetter(b) || isDigit(b) || b == '_') {
                CHECK.fault(text, 2, 0);
            } else {
                CHECK.fault(text, isSign(b) ? 2 : 1, 3);
            }
        }
    }

    private static void everyByteAtTheBegin() {
        for (int b = 0; b < 256; b++) {
            boolean token = isLetter(b) || isDigit(b) || isSign(b) || isBlank(b);
            CHECK.fault("" + (char) b, token ? 2 : 1, isBlank(b) ? 1 : 0);
            if (isBlank(b)) {
                fine((char) b + "set s one{}" + (char) b, 1);
            }
        }
    }

    // "a WORD: a letter, and letters, digits and _ that follow"
    private static void everyByteInAWord() {
        for (int b = 0; b < 256; b++) {
            String text = "set s" + (char) b + " one{}";
            if (isLetter(b) || isDigit(b) || b == '_' || isBlank(b)) {
                PolicyJudge x = CHECK.loaded(text);
                CHECK.due("bytes of the name", x.name(0, 1, 0, -1), isBlank(b) ? 1 : 2);
                if (!isBlank(b)) {
                    CHECK.due("byte of the name", x.name(0, 1, 0, 1), b);
                }
            } else {
                CHECK.fault(text, isSign(b) ? 2 : 1, 5);
            }
        }
    }

    // "a NUMBER: one to three digits, no letter, digit or _ behind them"
    private static void everyByteBehindANumber() {
        String head = "set s one{permit with 1";
        for (int b = 0; b < 256; b++) {
            String text = head + (char) b + "2;}";
            if (isDigit(b) || b == ',') {
                fine(text, 2);
            } else if (isLetter(b) || b == '_') {
                CHECK.fault(text, 1, head.length() - 1);
            } else if (isBlank(b) || b == ';') {
                CHECK.fault(text, 2, head.length() + 1);
            } else {
                CHECK.fault(text, isSign(b) ? 2 : 1, head.length());
            }
        }
    }

    // "BLANKS (.. none or more)"
    private static void blanksNoneOrMore() {
        String[] tokens = ("attr a 2 many must ; set s one for ( not ( a < 1 ) or a = 1 ) and a > 0 { permit x for a in { 0 , 1 }"
            + " with 1 , 2 ; duty deny 3 ; }").split(" ");
        fine(String.join(" ", tokens), 2);
        for (String blanks : new String[] { "\t", "\n", "\r", "  ", "\r\n", " \t\n\r \n" }) {
            fine(String.join(blanks, tokens), 2);
            fine(blanks + String.join(blanks, tokens) + blanks, 2);
        }
        fine("attr a 2 many must;set s one for(not(a<1)or a=1)and a>0{permit x for a in{0,1}with 1,2;duty deny 3;}", 2);
    }

    // "a WORD .. 12 bytes at most", "1 .. a WORD .. that is too long"
    private static void wordsOfTwelve() {
        String twelve = "aB3_efghij_L";
        String more = twelve + "m";
        fine("attr " + twelve + " 2;attr b 2;set " + twelve + " one for " + twelve + " none and b meets " + twelve
            + "{permit " + twelve + ";deny " + twelve + " for true;}", 3);
        faultAt("attr ^" + more + " 1;set s one{}", 1);
        faultAt("set ^" + more + " one{}", 1);
        faultAt("set s one{permit ^" + more + ";}", 1);
        faultAt("attr " + twelve + " 1;set s one for ^" + more + " none{}", 1);
        faultAt("attr " + twelve + " 1;set s one for " + twelve + " meets ^" + more + "{}", 1);
        faultAt("^" + more, 1);
        faultAt("set ^" + Check.times(5000, "z"), 1);
        faultAt("set ^" + Check.times(13, "_"), 1);
        fine("set x one{}", 1);
        fine("set " + Check.times(12, "x") + " one{}", 1);
        fine("set x" + Check.times(11, "_") + " one{}", 1);
        fine("set x" + Check.times(11, "0") + " one{}", 1);
        faultAt("set ^x" + Check.times(12, "0") + " one{}", 1);
        fine("set elsepermit__ one{}", 1);
        faultAt("set ^elsepermit___ one{}", 1);

        // All twelve tell names apart, and so does how many there are.
        fine("attr abcdefghijkl 1;attr abcdefghijkm 1;attr abcdefghijk 1;attr a 1;set s one for abcdefghijkm none{}", 1);
        faultAt("attr abcdefghijkl 1;set s one for ^abcdefghijkm none{}", 3);
        faultAt("attr abcdefghijkl 1;set s one for ^abcdefghijk none{}", 3);
    }

    // "a NUMBER: one to three digits", "1 .. NUMBER that is too long, a NUMBER with a letter, digit or _ behind it"
    private static void numbersOfThreeDigits() {
        PolicyJudge x = CHECK.loaded("set s first{permit with 0,00,000,9,09,009,99,099,999,7 ,1\n,2;}");
        x.decide(0);
        int[] due = { 0, 0, 0, 9, 9, 9, 99, 99, 999, 7, 1, 2 };
        CHECK.due("numbers", x.duty(0, -1), due.length);
        for (int k = 0; k < due.length; k++) {
            CHECK.due("number " + k, x.duty(0, k), due[k]);
        }
        for (String bad : "0000 1000 9999 0001 00000000000 1a 1Z 1_ 12a 12_ 123a 123_ 1__ 0x1 1or".split(" ")) {
            faultAt("set s one{permit with ^" + bad + ";}", 1);
            faultAt("set s one{duty deny ^" + bad + ";}", 1);
            faultAt("attr a ^" + bad + ";set s one{}", 1);
            faultAt("attr a 8;set s one for a has ^" + bad + "{}", 1);
            faultAt("attr a 8;set s one for a in{0,^" + bad + "}{}", 1);
            faultAt("attr a 8;set s one for a>^" + bad + "{}", 1);
        }
        faultAt("set s one{permit with 999^", 2);
        faultAt("set s one{permit with ^9999", 1);
        faultAt("set s one{permit with ^99a", 1);
    }

    // "Letters, great and small, are not alike."
    private static void lettersGreatAndSmall() {
        for (String word : WORDS) {
            String great = word.substring(0, 1).toUpperCase() + word.substring(1);
            fine("attr " + great + " 2;set " + great + " one for " + great + " none{permit " + great + ";}", 2);
            fine("set " + word.toUpperCase() + " one{}", 1);
        }
        faultAt("^Set s one{}", 2);
        faultAt("^Attr a 1;set s one{}", 2);
        faultAt("attr a 1 ^Many;set s one{}", 2);
        faultAt("attr a 1 ^musT;set s one{}", 2);
        faultAt("set s ^One{}", 2);
        faultAt("set s one ^For true{}", 2);
        faultAt("set s one{^PERMIT;}", 2);
        faultAt("set s one{permit a ^With 1;}", 2);
        faultAt("set s one for ^TRUE{}", 3);
        faultAt("attr a 1;set s one for a ^None{}", 2);
        fine("attr a 1;attr A 1;set s one for a none or A none{}", 1);
        faultAt("attr a 1;set s one for ^A none{}", 3);
        faultAt("attr A 1;set s one for A meets ^a{}", 3);
    }

    // "These words are no NAMES"
    private static void wordsThatAreNoNames() {
        CHECK.due("words", WORDS.length, 27);
        for (String word : WORDS) {
            faultAt("attr ^" + word + " 1;set s one{}", 2);
            faultAt("set ^" + word + " one{}", 2);
            faultAt("attr a 1;set s one for a meets ^" + word + "{}", 2);
            boolean follows = word.equals("for") || word.equals("with");
            faultAt("set s one{permit " + (follows ? word + "^;}" : "^" + word + ";}"), 2);
            if (List.of("true", "false", "error").contains(word)) {
                faultAt("set s one for " + word + " ^none{}", 2);
            } else {
                faultAt("set s one for " + (word.equals("not") ? "not ^none{}" : "^" + word + " none{}"), 2);
            }
            for (String behind : new String[] { "x", "0", "_" }) {
                String name = word + behind;
                fine("attr " + name + " 1;set " + name + " one for " + name + " meets " + name + "{deny " + name + ";}", 2);
            }
        }
    }

    // "text: { attribute } policy", "attribute: 'attr' NAME NUMBER [ 'many' ] [ 'must' ] ';'"
    private static void textAndAttributes() {
        fine("set s one{}", 1);
        fine("attr a 1;set s one{}", 1);
        faultAt("attr a 1;^", 2);
        faultAt("attr a 1;^permit;", 2);
        faultAt("^duty permit 1;", 2);
        faultAt("set s one{}^set t one{}", 2);
        faultAt("set s one{}^attr a 1;", 2);
        faultAt("set s one{}^}", 2);
        faultAt("set s one{}^;", 2);
        faultAt("set s one{^attr a 1;}", 2);
        faultAt("attr ^1;set s one{}", 2);
        faultAt("attr a^;set s one{}", 2);
        faultAt("attr a ^set s one{}", 2);
        faultAt("attr a ^attr b 1;set s one{}", 2);
        faultAt("attr ^set s one{}", 2);
        faultAt("attr ^attr a 1;set s one{}", 2);
        faultAt("attr a 1 ^attr b 1;set s one{}", 2);
        faultAt("attr a 1 many ^set s one{}", 2);
        faultAt("attr a ^b 1;set s one{}", 2);
        faultAt("attr a 1 ^2;set s one{}", 2);
        faultAt("attr a 1^,set s one{}", 2);
        faultAt("attr a 1 ^set s one{}", 2);
        faultAt("attr a 1;^;set s one{}", 2);
        String[] ends = { "", " many", " must", " many must" };
        for (int k = 0; k < 4; k++) {
            PolicyJudge x = CHECK.loaded("attr a 1" + ends[k] + ";set s one{}");
            CHECK.due("many", x.attribute(0, 0, 1), k & 1);
            CHECK.due("must", x.attribute(0, 0, 2), k >> 1);
        }
        faultAt("attr a 1 must ^many;set s one{}", 2);
        faultAt("attr a 1 many ^many;set s one{}", 2);
        faultAt("attr a 1 must ^must;set s one{}", 2);
        faultAt("attr a 1 many must ^must;set s one{}", 2);
        faultAt("attr a ^many 1;set s one{}", 2);
    }

    // "policy: 'set' NAME way [ 'for' any ] '{' { policy | rule | duty } '}'"
    private static void policies() {
        for (String way : WAYS) {
            fine("set s " + way + "{}", 1);
            faultAt("set s " + way + " ^" + way + "{}", 2);
            faultAt("set ^" + way + "{}", 2);
        }
        faultAt("set s^{}", 2);
        faultAt("set s ^for true{}", 2);
        faultAt("set s ^t one{}", 2);
        faultAt("set s one ^t{}", 2);
        faultAt("set s one^;", 2);
        faultAt("set s one^}", 2);
        faultAt("set s one for true^;", 2);
        faultAt("set s one for true ^for true{}", 2);
        faultAt("set s one{^{}}", 2);
        faultAt("set s one{^;}", 2);
        faultAt("set s one{^s;}", 2);
        faultAt("set s one{^7}", 2);
        faultAt("set s one{^for true}", 2);
        faultAt("set s one{set t one{}^;}", 2);
        faultAt("set s one{set t one{}^", 2);
        fine("set s one{set t one{}set u one{}}", 3);
        fine("set s one{duty deny 1;permit;duty permit 1;set t one{}duty deny 1;}", 3);
    }

    // "rule: ( 'permit' | 'deny' ) [ NAME ] [ 'for' any ] [ 'with' NUMBER { ',' NUMBER } ] ';'", "duty: .. NUMBER ';'"
    private static void rulesAndDuties() {
        for (String side : new String[] { "permit", "deny" }) {
            for (int k = 0; k < 8; k++) {
                fine("set s one{" + side + ((k & 1) > 0 ? " n" : "") + ((k & 2) > 0 ? " for true" : "")
                    + ((k & 4) > 0 ? " with 1" : "") + ";}", 2);
            }
            faultAt("set s one{" + side + "^}", 2);
            faultAt("set s one{" + side + " n ^m;}", 2);
            faultAt("set s one{" + side + " with 1 ^n;}", 2);
            faultAt("set s one{" + side + " with 1 ^for true;}", 2);
            faultAt("set s one{" + side + " with 1 ^with 1;}", 2);
            faultAt("set s one{" + side + " for true ^n;}", 2);
            faultAt("set s one{" + side + " with^;}", 2);
            faultAt("set s one{" + side + " with ^,1;}", 2);
            faultAt("set s one{" + side + " with 1,^;}", 2);
            faultAt("set s one{" + side + " with 1,^,2;}", 2);
            faultAt("set s one{" + side + " with 1 ^2;}", 2);
            faultAt("set s one{" + side + " with ^{1};}", 2);
            fine("set s one{duty " + side + " 0;}", 1);
            faultAt("set s one{duty " + side + "^;}", 2);
            faultAt("set s one{duty " + side + " 1^,2;}", 2);
            faultAt("set s one{duty " + side + " 1 ^2;}", 2);
            faultAt("set s one{duty " + side + " ^n 1;}", 2);
            faultAt("set s one{duty " + side + " 1^}", 2);
        }
        faultAt("set s one{duty ^1;}", 2);
        faultAt("set s one{duty ^set 1;}", 2);
        faultAt("set s one{duty^;}", 2);
    }

    // "any: all { 'or' all }", "all: part { 'and' part }", "part: 'not' part | '(' any ')' | .."
    private static void expressions() {
        for (String good : new String[] { "true", "(true)", "not true", "not not true", "not(true)", "(not true)",
            "true or true", "true and true", "not true or not true", "(true)and(true)", "((true)or(true))" }) {
            fine("set s one for " + good + "{}", 1);
            fine("set s one{permit for " + good + ";}", 2);
            fine("set s one{deny for " + good + " with 1;}", 2);
        }
        for (String bad : new String[] { "^", "^or true", "^and true", "true or ^", "true and ^", "true or ^or true",
            "true or ^and true", "true and ^or true", "not ^", "not ^or true", "(^)", "(^", "(true^", "true^)", "(true)^)",
            "(true or^)", "((true)^", "true ^true", "true ^not true", "true ^(true)", "(true)^(true)", "(true)^true", "^1",
            "(true^,true)", "not(^)" }) {
            faultAt("set s one for " + bad + "{}", 2);
        }
        // A { opens no list here: it is the set's own.
        faultAt("set s one for ^{true}{}", 2);
    }

    // "test: ..", "list: '{' NUMBER { ',' NUMBER } '}'"
    private static void testsAndLists() {
        String head = "attr a 3;attr b 3;set s one for a ";
        for (String good : new String[] { "has 1", "in{1}", "in{2,1}", "only{1}", "<1", "=1", ">1", "meets b", "meets a",
            "is 1", "none" }) {
            fine(head + good + "{}", 1);
            fine(head + good + " or true{}", 1);
        }
        for (String bad : new String[] { "^", "has^", "has ^{1}", "has ^b", "has 1^,2", "has ^<", "in^", "in ^1", "in{^}",
            "in{^,1}", "in{1,^}", "in{1 ^2}", "in{1,^,2}", "in{1^;2}", "in{1^", "in ^b", "in{^b}", "only{^}", "only ^1", "<^",
            "<^b", "<^=1", "<^{1}", "=^=1", ">^", "meets^", "meets ^1", "meets ^{1}", "is^", "is ^b", "is ^not 1", "none ^1",
            "none ^none", "^not none", "^b", "^1", "^or b none", "^(1)", "^has1", "^is1", "^none1", "^in1", "meets ^", "^nones" }) {
            faultAt(head + bad + (bad.endsWith("^") ? "" : "{}"), 2);
        }
    }

    // What is missed is missed at the token behind, though that may follow a whole part.
    private static void testsThatStopTooEarly() {
        String[] unfinished = { "not", "(", "(true or", "a", "a has", "a in", "a in{", "a in{0,", "a only", "a only{", "a only{0,",
            "a<", "a=", "a>", "a meets", "a is", "true or", "true and", "not not", "a none or a" };
        String[] behind = { "or true", "and true", ")", ";", "with 1", "{", "}", "}{", ",0}{" };
        for (String part : unfinished) {
            for (String next : behind) {
                // These begin or end a list just as they should.
                boolean opens = next.equals("{") && (part.equals("a in") || part.equals("a only"));
                if (!opens) {
                    faultAt("attr a 3;set s one for " + part + " ^" + next, 2);
                    faultAt("attr a 3;set s one{permit for " + part + " ^" + next, 2);
                }
            }
        }
        for (String next : new String[] { "or true", "and true", ")", ";", "with 1", "{" }) {
            faultAt("attr a 3;set s one{permit for a in{0 ^" + next, 2);
            faultAt("attr a 3;set s one for a only{0,1 ^" + next, 2);
        }
    }

    // Likewise of sets, rules and duties: the token behind would begin or end another one.
    private static void membersThatStopTooEarly() {
        String[] unfinished = { "set", "set t", "set t one", "set t one for true", "permit", "deny n", "permit for true",
            "deny with", "permit with 1", "permit with 1,", "duty", "duty deny 1" };
        for (String member : unfinished) {
            for (String next : new String[] { "permit;}", "deny;}", "set u one{}}", "duty deny 1;}", "}" }) {
                boolean goesOn = member.equals("duty") && (next.startsWith("permit") || next.startsWith("deny"));
                if (!goesOn) {
                    faultAt("set s one{" + member + " ^" + next, 2);
                }
            }
        }
        faultAt("set s one{duty permit ^permit;}", 2);
        faultAt("set s one{duty deny ^}", 2);
        faultAt("set s one{duty permit^;}", 2);
    }

    // "An attribute has a SIZE 1 .. 8", "4 a SIZE that is not 1 .. 8"
    private static void sizes() {
        for (int size = 0; size <= 999; size += size < 20 ? 1 : 7) {
            for (String told : new String[] { "" + size, String.format("%03d", size) }) {
                if (size >= 1 && size <= 8) {
                    PolicyJudge x = CHECK.loaded("attr a " + told + ";set s one{}");
                    CHECK.due("SIZE", x.attribute(0, 0, 0), size);
                } else {
                    faultAt("attr a ^" + told + ";set s one{}", 4);
                }
            }
        }
        faultAt("attr a ^999 many;set s one{}", 4);
        faultAt("attr a ^256;set s one{}", 4);
        faultAt("attr a 8;attr b ^9 must;set s one{}", 4);
    }

    // "its VALUES are 0 .. SIZE - 1", "4 .. a value that is none of its attribute"
    private static void valuesOfEachSize() {
        for (int size = 1; size <= 8; size++) {
            String head = "attr z 8;attr a " + size + ";attr y 1;set s one for a ";
            String all = "0";
            for (int value = 1; value < size; value++) {
                all += "," + value;
            }
            for (String test : new String[] { "has #", "is #", "in{#}", "only{#}" }) {
                fine(head + test.replace("#", "0") + "{}", 1);
                fine(head + test.replace("#", "" + (size - 1)) + "{}", 1);
                faultAt(head + test.replace("#", "^" + size) + "{}", 4);
                faultAt(head + test.replace("#", "^00" + size) + "{}", 4);
                faultAt(head + test.replace("#", "^32") + "{}", 4);
                faultAt(head + test.replace("#", "^999") + "{}", 4);
            }
            for (String test : new String[] { "in", "only" }) {
                fine(head + test + "{" + all + "}{}", 1);
                faultAt(head + test + "{" + all + ",^" + size + "}{}", 4);
                faultAt(head + test + "{" + all + ",^0}{}", 4);
                faultAt(head + test + "{" + all + ",^" + (size - 1) + "}{}", 4);
            }
            for (String sign : new String[] { "<", "=", ">" }) {
                fine(head + sign + "0{}", 1);
                fine(head + sign + size + "{}", 1);
                fine(head + sign + "999{}", 1);
                faultAt(head + sign + "^1000{}", 1);
            }
        }
    }

    // "4 .. a value twice in a list"
    private static void valuesTwice() {
        String head = "attr a 8;set s one for a ";
        for (String test : new String[] { "in", "only" }) {
            faultAt(head + test + "{0,^0}{}", 4);
            faultAt(head + test + "{7,^7}{}", 4);
            faultAt(head + test + "{7,0,^7}{}", 4);
            faultAt(head + test + "{1,^01}{}", 4);
            faultAt(head + test + "{001,^1}{}", 4);
            fine(head + test + "{7,6,5,4,3,2,1,0}{}", 1);
            // Another list begins anew.
            fine(head + test + "{1}and a " + test + "{1}{}", 1);
        }
    }

    // "NAMES in parts are those of attributes told before", "3 a NAME in a part that is no attribute, an attribute's
    // that was told before"
    private static void namesToldBefore() {
        faultAt("set s one for ^a none{}", 3);
        faultAt("attr a 1;set s one for ^b none{}", 3);
        faultAt("attr a 1;set s one for ^s none{}", 3);
        faultAt("attr a 1;set s one{permit r;deny for ^r none;}", 3);
        faultAt("attr a 1;set s one for a meets ^b{}", 3);
        faultAt("attr a 1;set s one for a meets ^s{}", 3);
        faultAt("attr a 1;set s one for ^aa none{}", 3);
        faultAt("attr aa 1;set s one for ^a none{}", 3);
        faultAt("attr a 1;attr ^a 1;set s one{}", 3);
        faultAt("attr a 1;attr b 1;attr ^a 2 many;set s one{}", 3);
        faultAt("attr a 1;attr ^a 9;set s one{}", 3);
        faultAt("attr a 1;attr ^a;set s one{}", 3);
        fine("attr a 1;attr a_ 1;attr a0 1;set s one for a meets a_ or a0 none{}", 1);

        // What was told in another load was not told before.
        PolicyJudge x = CHECK.loaded("attr a 1;set s one{}");
        CHECK.due("an attribute of text 0", Check.load(x, 1, "set s one for a none{}"), -15);
        CHECK.due("its kind", x.fault(), 3);
        CHECK.due("told once in each", Check.load(x, 1, "attr a 1;set s one for a none{}"), 1);
    }

    // "names of sets and rules may be any (not asked for again)"
    private static void namesOfSetsAndRules() {
        fine("attr a 1;set a one{permit a;permit a;set a one{deny a for a none;}}", 5);
        fine("set s one{set s one{}set s one{permit s;}}", 4);
    }

    // "NODES are sets and rules .. 100 at most", "5 .. NODES (at their first word)"
    private static void nodesAtMost() {
        String start = "set s one{" + Check.times(97, "deny;");
        fine(start + "permit;permit;}", 100);
        fine(start + "permit;deny;}", 100);
        fine(start + "permit;set t one{}}", 100);
        fine(start + "set t one{set u one{}}}", 100);
        fine(start + "permit;deny;duty deny 1;}", 100);
        faultAt(start + "permit;deny;^permit;}", 5);
        faultAt(start + "permit;deny;^deny n for true with 1;}", 5);
        faultAt(start + "permit;deny;^set t one{}}", 5);
        faultAt(start + "set t one{set u one{^permit;}}}", 5);
        faultAt(start + "set t one{set u one{}^set v one{}}}", 5);
        faultAt(start + "permit;deny;^permit ?", 5);
        faultAt(start + "permit;deny;^set", 5);
        fine("set s one{" + Check.times(99, "set t one{}") + "}", 100);
        faultAt("set s one{" + Check.times(99, "set t one{}") + "^set t one{}}", 5);

        PolicyJudge x = new PolicyJudge();
        CHECK.due("too many", Check.load(x, 0, start + "permit;deny;permit;}") < 0 ? x.fault() : 0, 5);
        CHECK.due("and then as many as may be", Check.load(x, 0, start + "permit;deny;}"), 100);
    }

    // "numbered as they begin"
    private static void nodesAsTheyBegin() {
        PolicyJudge x = CHECK.loaded("set a one{set b one{permit c;set d one{}deny e;}permit f;set g one{}}");
        for (int i = 0; i < 7; i++) {
            CHECK.due("name of node " + i, x.name(0, 1, i, 0), 'a' + i);
            CHECK.due("around node " + i, x.node(0, i, 2), new int[] { -1, 0, 1, 1, 1, 0, 0 }[i]);
        }
    }

    // "PARTS of expressions: true, false, error, each test, not; each or, and with all that it joins (one, however many;
    // none for one alone; brackets are none)"
    private static void partsThatCount() {
        String[] expressions = { "true", "false", "error", "a has 1", "a in{0,1}", "a only{0}", "a<1", "a=1", "a>1",
            "a meets b", "a is 1", "a none", "(((true)))", "not true", "not(true)", "not not true", "true or true",
            "true and true", "true or true or true or true", "true and true and true and true", "true or true and true",
            "true and true or true and true", "(true or true)or true", "true or(true or true)", "(true and true)and true",
            "((true)or(true))", "not(true or true)" };
        int[] due = { 1, 1, 1, 1, 1, 1, 1, 1, 1, 1, 1, 1, 1, 2, 2, 3, 3, 3, 5, 5, 5, 7, 5, 5, 5, 3, 4 };
        for (int k = 0; k < due.length; k++) {
            String head = "attr a 2;attr b 2;set s one";
            CHECK.due("parts of " + expressions[k], CHECK.loaded(head + " for " + expressions[k] + "{}").count(0, 2), due[k]);
            CHECK.due("parts of a rule's " + expressions[k],
                CHECK.loaded(head + " for true{permit for " + expressions[k] + ";}").count(0, 2), due[k] + 1);
        }
        CHECK.due("parts without expressions", CHECK.loaded("attr a 2;set s one{permit with 1;}").count(0, 2), 0);
    }

    /** The begin of a text which has so many PARTS; a rule may follow. */
    private static String partsBefore(int parts) {
        return "attr a 2;attr b 2;set s one for true{permit for true" + Check.times(parts - 3, " or true") + ";permit for ";
    }

    // "400 at most in a text", "5 .. PARTS (at the first byte of what is one too many ..)"
    private static void partsAtMostOfEachSort() {
        for (String part : new String[] { "true", "false", "error", "a has 1", "a in{0}", "a only{0}", "a<1", "a=1", "a>1",
            "a meets b", "a is 1", "a none" }) {
            PolicyJudge x = CHECK.loaded(partsBefore(399) + part + ";}");
            CHECK.due("all parts", x.count(0, 2), 400);
            faultAt(partsBefore(400) + "^" + part + ";}", 5);
            faultAt(partsBefore(399) + "true;deny for ^" + part + ";}", 5);
            faultAt(partsBefore(399) + "true;set t one for((^" + part + ")){}}", 5);
            faultAt(partsBefore(399) + "not ^" + part + ";}", 5);
            faultAt(partsBefore(400) + "^not " + part + ";}", 5);
        }
        fine(partsBefore(399) + "((((true))));}", 3);
        fine(partsBefore(398) + "not true;}", 3);
        fine(partsBefore(398) + "not(true);}", 3);
        faultAt(partsBefore(400) + "(((^true)));}", 5);
        faultAt(partsBefore(400) + "^a ?", 5);
        faultAt(partsBefore(398) + "not true;}^?", 1);

        PolicyJudge x = new PolicyJudge();
        CHECK.due("too many", Check.load(x, 0, partsBefore(400) + "true;}") < 0 ? x.fault() : 0, 5);
        CHECK.due("and then as many as may be", Check.load(x, 0, partsBefore(399) + "true;}"), 3);
    }

    // "5 .. PARTS (.. of or, and at the first such word)"
    private static void partsAtMostInJoints() {
        for (String word : new String[] { "or", "and" }) {
            fine(partsBefore(397) + "true " + word + " true;}", 3);
            faultAt(partsBefore(398) + "true " + word + " ^true;}", 5);
            faultAt(partsBefore(399) + "true ^" + word + " true;}", 5);
            faultAt(partsBefore(400) + "^true " + word + " true;}", 5);
            fine(partsBefore(396) + "true " + word + " true " + word + " true;}", 3);
            faultAt(partsBefore(397) + "true " + word + " true " + word + " ^true;}", 5);
            fine(partsBefore(395) + "(true " + word + " true)" + word + " true;}", 3);
            faultAt(partsBefore(396) + "(true " + word + " true)" + word + " ^true;}", 5);
            faultAt(partsBefore(397) + "(true " + word + " true)^" + word + " true;}", 5);
        }
        fine(partsBefore(395) + "true or true and true;}", 3);
        faultAt(partsBefore(396) + "true or true and ^true;}", 5);
        faultAt(partsBefore(397) + "true or true ^and true;}", 5);
        faultAt(partsBefore(398) + "true or ^true and true;}", 5);
        fine(partsBefore(395) + "true and true or true;}", 3);
        faultAt(partsBefore(396) + "true and true or ^true;}", 5);
        faultAt(partsBefore(397) + "true and true ^or true;}", 5);
        faultAt(partsBefore(399) + "true ^and true or true;}", 5);
    }

    // "At most 8 attributes", "5 too many attributes (at attr)"
    private static void attributesAtMost() {
        String eight = "";
        for (int i = 0; i < 8; i++) {
            eight += "attr a" + i + " 8 many must;";
        }
        fine(eight + "set s one for a0 meets a7{}", 1);
        CHECK.due("attributes", CHECK.loaded(eight + "set s one{}").count(0, 0), 8);
        faultAt(eight + "^attr a8 1;set s one{}", 5);
        faultAt(eight + "^attr a0 1;set s one{}", 5);
        faultAt(eight + "^attr ?", 5);
        faultAt(eight + "^attr", 5);
        faultAt(eight + "^", 2);
        faultAt(eight + "^a", 2);
    }

    // "100 duties (those of with, too)", "5 .. duties (at the NUMBER)"
    private static void dutiesAtMost() {
        String with = "set s one{permit with 1" + Check.times(98, ",1");
        fine(with + ",1;}", 2);
        faultAt(with + ",1,^1;}", 5);
        faultAt(with + ",1;deny with ^1;}", 5);
        faultAt(with + ",1;duty deny ^1;}", 5);
        faultAt(with + ",1;duty permit ^999;}", 5);
        String duty = "set s one{" + Check.times(99, "duty deny 1;");
        fine(duty + "duty permit 0;}", 1);
        fine(duty + "permit with 0;}", 2);
        faultAt(duty + "duty permit 0;duty deny ^1;}", 5);
        faultAt(duty + "permit with 0,^1;}", 5);
        faultAt(duty + "set t one{duty deny 1;duty deny ^1;}}", 5);
        faultAt(duty + "duty permit 0;permit with ^1", 5);
        CHECK.due("duties", CHECK.loaded(with + ",1;}").count(0, 3), 100);
        CHECK.due("duties", CHECK.loaded(duty + "permit with 0;}").count(0, 3), 100);

        PolicyJudge x = new PolicyJudge();
        CHECK.due("too many", Check.load(x, 0, with + ",1,1;}") < 0 ? x.fault() : 0, 5);
        CHECK.due("and then as many as may be", Check.load(x, 0, with + ",1;}"), 2);
    }

    // All limits at once: 8 attributes, 100 nodes, 400 parts, 100 duties, 20 deep.
    private static void allAtMost() {
        StringBuilder text = new StringBuilder();
        for (int i = 0; i < 8; i++) {
            text.append("attr attribute_0").append(i).append(" 8;");
        }
        text.append(Check.times(20, "set s one{")).append(Check.times(79, "deny;")).append("deny for true");
        text.append(Check.times(398, " or true")).append(" with 7").append(Check.times(99, ",7")).append(";");
        text.append(Check.times(20, "}"));
        PolicyJudge x = CHECK.loaded(text.toString());
        int[] due = { 8, 100, 400, 100 };
        for (int what = 0; what < 4; what++) {
            CHECK.due("count " + what, x.count(0, what), due[what]);
        }
        CHECK.due("the last node's duties", x.node(0, 99, 4), 100);
        CHECK.due("decide", x.decide(0), 5);
        CHECK.due("the last node", x.decided(0, 99), 2);
    }

    // "DEPTH: .. { of sets that stand open around: 20 at most", "5 .. or too deep (at .. { )"
    private static void depthOfSets() {
        fine(Check.times(20, "set s one{") + Check.times(20, "}"), 20);
        faultAt(Check.times(20, "set s one{") + "set s one^{" + Check.times(21, "}"), 5);
        faultAt(Check.times(20, "set s one{") + "set s one for true ^{", 5);
        faultAt(Check.times(19, "set s one{") + "set s one{}set s one{set s one^{", 5);
        // The { of a list is none of a set.
        fine("attr a 1;" + Check.times(20, "set s one{") + "permit for a in{0};" + Check.times(20, "}"), 21);
        // A set's expression stands before its own {.
        fine(Check.times(19, "set s one{") + "set s one for(true){}" + Check.times(19, "}"), 20);
        faultAt(Check.times(20, "set s one{") + "set s one for^(true){}", 5);
    }

    // "DEPTH: ( of parts, not, and { of sets ..", "5 .. too deep (at ( , not, { )"
    private static void depthOfParts() {
        for (int sets = 0; sets <= 20; sets++) {
            String head = "attr a 1;" + Check.times(sets, "set s one{") + (sets == 0 ? "set s one for " : "permit for ");
            String tail = sets == 0 ? "{}" : ";" + Check.times(sets, "}");
            for (int pattern = 0; pattern < 4; pattern++) {
                StringBuilder open = new StringBuilder();
                StringBuilder close = new StringBuilder();
                boolean bracket = false;
                for (int k = 0; k < 20 - sets; k++) {
                    bracket = pattern == 0 || pattern > 1 && (k + pattern) % 2 == 0;
                    open.append(bracket ? "(" : "not ");
                    close.append(bracket ? ")" : "");
                }
                fine(head + open + "a none" + close + tail, sets + 1);
                faultAt(head + open + "^(a none)" + close + tail, 5);
                faultAt(head + open + "^not a none" + close + tail, 5);
                if (bracket) {
                    faultAt(head + open + "true or ^not a none" + close + tail, 5);
                    faultAt(head + open + "true and ^(a none)" + close + tail, 5);
                }
            }
        }
    }

    // "that stand open around", "(not: till its part ends)"
    private static void depthEnds() {
        String head = Check.times(19, "set s one{");
        String tail = Check.times(19, "}");
        fine(head + Check.times(5, "set s one{}") + "permit for(true)and(true)or(true);" + tail, 25);
        fine(head + "permit for not true and not false or not error;" + tail, 20);
        fine(head + "permit for not true;deny for(true);permit for not true;" + tail, 22);
        faultAt(head + "permit for not ^(true);" + tail, 5);
        faultAt(head + "permit for(^not true);" + tail, 5);
        faultAt(head + "permit for not true and not ^not true;" + tail, 5);
        String higher = Check.times(18, "set s one{");
        fine(higher + "permit for not(true)and(not true)or not not false and((true));" + Check.times(18, "}"), 19);
        faultAt(higher + "permit for not(true)and(not ^(true));" + Check.times(18, "}"), 5);
        faultAt(higher + "permit for not(true or ^(true));" + Check.times(18, "}"), 5);
    }

    // "a PLACE (from 0), its token's first byte (the text's end: how many bytes there are)"
    private static void placeOfTheEnd() {
        faultAt("^", 2);
        faultAt(" ^", 2);
        faultAt("set^", 2);
        faultAt("set   ^", 2);
        faultAt("set s one{ \n\t^", 2);
        faultAt("set s one{}  ^x", 2);
        faultAt("  ^permit", 2);
        faultAt("\n^?", 1);
        String text = "attr a 2 many must;set s one for(not a in{0,1}or a<1){permit n for a meets a with 1,2;duty deny 3;}";
        fine(text, 2);
        for (int length = 0; length < text.length(); length++) {
            PolicyJudge x = new PolicyJudge();
            int answer = Check.load(x, 0, text.substring(0, length));
            CHECK.due("no text ends at " + length, answer < 0 ? 1 : 0, 1);
            // A name that was cut off may be another one, or a word: all else is missed at the end.
            boolean cutInside = Character.isLetterOrDigit(text.charAt(length)) && length > 0
                && Character.isLetterOrDigit(text.charAt(length - 1));
            if (!cutInside) {
                CHECK.due("the end at " + length, answer, -1 - length);
                CHECK.due("its kind", x.fault(), 2);
            }
        }
    }

    // "Of one token the least kind"
    private static void leastKindOfOneToken() {
        // A NAME that is no attribute, and one part too many: 3, not 5.
        faultAt(partsBefore(400) + "^zz none;}", 3);
        faultAt(partsBefore(399) + "not ^zz none;}", 3);
        // A token that cannot come there, where there are too many parts: 2, not 5.
        faultAt(partsBefore(400) + "^;}", 2);
        faultAt(partsBefore(400) + "^with 1;}", 2);
        // A token that is none, wherever it stands: 1.
        faultAt(partsBefore(400) + "^?;}", 1);
        faultAt(partsBefore(400) + "^abcdefghijklm none;}", 1);
        faultAt(partsBefore(399) + "true ^?;}", 1);
        faultAt("set s one{" + Check.times(99, "deny;") + "^?", 1);
        faultAt("set s one{" + Check.times(99, "deny;") + "^permits", 2);
        faultAt("set s one{permit with 1" + Check.times(99, ",1") + ",^1x;}", 1);
        faultAt("set s one{permit with 1" + Check.times(99, ",1") + ",^x;}", 2);
        faultAt("set s one{permit with 1" + Check.times(99, ",1") + ",^1000;}", 1);
        faultAt(Check.times(20, "set s one{") + "set s one^;", 2);
        faultAt(Check.times(20, "set s one{") + "set s one^[", 1);
        faultAt(Check.times(20, "set s one{") + "permit for ^);", 2);
        // A SIZE, a value of too many digits: 1, not 4; a word: 2, not 4; a name of too many bytes: 1, not 3.
        faultAt("attr a ^0000;set s one{}", 1);
        faultAt("attr a ^b;set s one{}", 2);
        faultAt("attr a 1;set s one for a has ^1000{}", 1);
        faultAt("attr a 1;set s one for a in{^a}{}", 2);
        faultAt("set s one for ^abcdefghijklm none{}", 1);
        faultAt("attr set_ 1;attr ^set 9;set s one{}", 2);
        // Too deep and too many at once are one kind.
        faultAt("set s one for true" + Check.times(398, " or true") + "{" + Check.times(19, "set s one{") + "permit for ^not true;", 5);
    }

    // "the first one from the left"
    private static void firstFaultFromTheLeft() {
        String[] faults = { "permit with ^1000;", "permit ^7;", "permit for ^zz none;", "permit for a has ^3;",
            "permit for " + Check.times(19, "(") + "^(true" + Check.times(20, ")") + ";" };
        for (int first = 0; first < 5; first++) {
            for (int second = 0; second < 5; second++) {
                faultAt("attr a 3;set s one{" + faults[first] + faults[second].replace("^", "") + "}", first + 1);
                faultAt("attr a 3;set s one{permit;" + faults[first] + "}" + faults[second].replace("^", ""), first + 1);
            }
        }
        faultAt("attr a ^9;attr a 1", 4);
        faultAt("attr a 1;attr ^a 9 many many", 3);
        faultAt("set s one for ^a ? none", 3);
        faultAt("attr a 1;set s one for a has ^1 ?", 4);
        faultAt("attr a 1;set s one for a in{0 ^0}", 2);
    }
}
