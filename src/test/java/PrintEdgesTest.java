/** The document's section 5 and promises 19 to 21: the least and the most that is printed, 6000 bytes and more. */
public final class PrintEdgesTest {
    private static final Check CHECK = new Check();

    public static void main(String[] args) {
        theLeast();
        attributes();
        setsAndTheirWays();
        rules();
        duties();
        dutiesBeforeChildren();
        numbers();
        tests();
        lists();
        brackets();
        blanksBeforeLines();
        printRefused();
        outFirstAndLast();
        outOfTheLatest();
        againWithNothingPrinted();
        againInPlaceOfTheTape();
        againAtMost6000();
        againOfMuch();
        CHECK.finish("PrintEdgesTest");
    }

    /** What is printed of a text is this, and of what is printed the same again. */
    private static void printed(String text, String due) {
        // A new object for each piece, so that none is called more often than promised.
        for (int from = 0; from < due.length(); from += 150) {
            PolicyJudge x = CHECK.loaded(text);
            checkPiece(x, 0, due, from);
            CHECK.due("again", x.again(), due.length());
            CHECK.due("load", x.load(1), x.count(0, 1));
            checkPiece(x, 1, due, from);
        }
    }

    private static void checkPiece(PolicyJudge x, int text, String due, int from) {
        CHECK.due("bytes printed", x.print(text), due.length());
        int end = Math.min(from + 150, due.length());
        StringBuilder piece = new StringBuilder();
        for (int k = from; k < end; k++) {
            piece.append((char) x.out(k));
        }
        CHECK.due("printed", piece.toString(), due.substring(from, end));
        CHECK.dueThrow("no byte behind", Check.INDEX, () -> x.out(due.length()));
    }

    private static void expression(String told, String due) {
        printed("attr a 8;attr b 8;set s one for " + told + "{}", "attr a 8;\nattr b 8;\nset s one for " + due + " {\n}\n");
    }

    private static void rule(String told, String due) {
        printed("set s one{" + told + "}", "set s one {\n  " + due + "\n}\n");
    }

    private static void theLeast() {
        printed("set s one{}", "set s one {\n}\n");
    }

    // "each attribute: attr, its name, SIZE, many, must (if so), with a blank between, and ; then byte 10"
    private static void attributes() {
        String[] sorts = { "", " many", " must", " many must" };
        for (String sort : sorts) {
            printed("attr a 1" + sort + ";set s one{}", "attr a 1" + sort + ";\nset s one {\n}\n");
            printed("attr abcdefghijkl 008" + sort + " ;set s one{}", "attr abcdefghijkl 8" + sort + ";\nset s one {\n}\n");
        }
        String eight = "";
        for (int i = 0; i < 8; i++) {
            eight += "attr a" + i + " " + (8 - i) + sorts[i % 4] + ";\n";
        }
        printed(eight + "set s one{}", eight + "set s one {\n}\n");
    }

    // "set, name, way, for and its expression (if it has one), { , a blank between, byte 10; .. and }, byte 10"
    private static void setsAndTheirWays() {
        for (String way : "denies permits first one elsedeny elsepermit".split(" ")) {
            printed("set abcdefghijkl " + way + "{}", "set abcdefghijkl " + way + " {\n}\n");
            printed("set s " + way + " for(true){}", "set s " + way + " for true {\n}\n");
        }
        printed("set s one{set t first{}set u one{set v one{}}}",
            "set s one {\n  set t first {\n  }\n  set u one {\n    set v one {\n    }\n  }\n}\n");
    }

    // "A rule: permit or deny, name, for .., with and its numbers ( , and a blank between two), a blank between all these, ;"
    private static void rules() {
        for (String side : new String[] { "permit", "deny" }) {
            for (int k = 0; k < 8; k++) {
                String words = side + ((k & 1) > 0 ? " n" : "") + ((k & 2) > 0 ? " for true" : "");
                rule(words + ((k & 4) > 0 ? " with 1" : "") + " ;", words + ((k & 4) > 0 ? " with 1;" : ";"));
                rule(words + " with 3,2 ,1;", words + " with 3, 2, 1;");
            }
        }
        rule("permit with 1" + Check.times(99, ",1") + ";", "permit with 1" + Check.times(99, ", 1") + ";");
        rule("deny;permit;", "deny;\n  permit;");
    }

    // "A duty: two blanks more than its set, duty, permit or deny, NUMBER, with a blank between, and ; then byte 10"
    private static void duties() {
        rule("duty permit 0;", "duty permit 0;");
        rule("duty deny 999;duty deny 999;", "duty deny 999;\n  duty deny 999;");
        printed("set s one{set t one{duty deny 1;}}", "set s one {\n  set t one {\n    duty deny 1;\n  }\n}\n");
    }

    // "in it its duties, then its children": also where they are told behind them, and a set is between.
    private static void dutiesBeforeChildren() {
        printed("set s one{permit with 1;duty deny 2;set t one{deny;duty permit 3;}duty permit 4;deny with 5;duty deny 6;}",
            "set s one {\n  duty deny 2;\n  duty permit 4;\n  duty deny 6;\n  permit with 1;\n  set t one {\n    duty permit 3;\n"
            + "    deny;\n  }\n  deny with 5;\n}\n");
        // Printed so, the nodes keep their order, and their duties theirs.
        PolicyJudge x = CHECK.loaded("set s permits{permit with 1;duty permit 2;permit with 3;duty permit 4;}");
        x.print(0);
        x.again();
        x.load(1);
        x.decide(0);
        x.decide(1);
        for (int k = 0; k < 4; k++) {
            CHECK.due("duty " + k, x.duty(1, k), x.duty(0, k));
        }
    }

    private static void numbers() {
        int[] all = { 0, 1, 9, 10, 11, 19, 20, 99, 100, 101, 109, 110, 190, 199, 200, 900, 909, 990, 999 };
        for (int number : all) {
            String told = String.format("%03d", number);
            rule("permit with " + number + ";", "permit with " + number + ";");
            rule("duty deny " + told + ";", "duty deny " + number + ";");
            expression("a<" + number, "a < " + number);
            expression("a=" + told, "a = " + number);
        }
    }

    // "a blank between words, numbers and signs < = >"
    private static void tests() {
        expression("a<1", "a < 1");
        expression("a=1", "a = 1");
        expression("a>1", "a > 1");
        expression("a\thas\n7", "a has 7");
        expression("a is 007", "a is 7");
        expression("a  none", "a none");
        expression("a meets b", "a meets b");
        expression("b meets a", "b meets a");
        expression("a meets a", "a meets a");
        expression("true", "true");
        expression("false", "false");
        expression("error", "error");
        expression("a<1 or b>2 and a=3", "a < 1 or b > 2 and a = 3");
    }

    // "lists { , their numbers, the least first, with , and a blank between two, } without blanks within"
    private static void lists() {
        for (String test : new String[] { "in", "only" }) {
            expression("a " + test + "{ 0 }", "a " + test + " {0}");
            expression("a " + test + "{007}", "a " + test + " {7}");
            expression("a " + test + "{7,0}", "a " + test + " {0, 7}");
            expression("a " + test + "{7,6,5,4,3,2,1,0}", "a " + test + " {0, 1, 2, 3, 4, 5, 6, 7}");
            expression("a " + test + "{3,1,2}and true", "a " + test + " {1, 2, 3} and true");
        }
    }

    // "( ) .. round an or in an and, in an or, in a not; round an and in an and, in a not"
    private static void brackets() {
        String or = "(true or false)";
        String and = "(true and false)";
        expression(or, "true or false");
        expression(and, "true and false");
        expression(or + "and error", "(true or false) and error");
        expression("error and" + or, "error and (true or false)");
        expression(or + "or error", "(true or false) or error");
        expression("error or" + or, "error or (true or false)");
        expression("not" + or, "not (true or false)");
        expression(and + "and error", "(true and false) and error");
        expression("error and" + and, "error and (true and false)");
        expression("not" + and, "not (true and false)");
        expression(and + "or error", "true and false or error");
        expression("error or" + and, "error or true and false");
        expression("true and false or error", "true and false or error");
        expression("(not true)and(not false)", "not true and not false");
        expression("(not true)or(not false)", "not true or not false");
        expression("not(not true)", "not not true");
        expression("not(a none)", "not a none");
        expression("(a none)and(true)or(b none)", "a none and true or b none");
        expression("not((((true or false))))", "not (true or false)");
        expression("((" + or + "or error))or true", "((true or false) or error) or true");
        String deep = Check.times(20, "true and (false or ") + "error" + Check.times(20, ")");
        expression(deep, deep);
        expression(Check.times(20, "(") + "true" + Check.times(20, ")"), "true");
        String nots = Check.times(20, "not ") + "true";
        expression(nots, nots);
        String longest = "true" + Check.times(199, " or true");
        printed("set s one for " + longest + "{}", "set s one for " + longest + " {\n}\n");
    }

    // "two blanks for each set around it": from none to twenty.
    private static void blanksBeforeLines() {
        for (int sets = 1; sets <= 20; sets++) {
            StringBuilder due = new StringBuilder();
            for (int k = 0; k < sets; k++) {
                due.append(Check.times(2 * k, " ")).append("set s one {\n");
            }
            due.append(Check.times(2 * sets, " ")).append("duty deny 1;\n");
            due.append(Check.times(2 * sets, " ")).append("permit;\n");
            for (int k = sets - 1; k >= 0; k--) {
                due.append(Check.times(2 * k, " ")).append("}\n");
            }
            String text = Check.times(sets, "set s one{") + "permit;duty deny 1;" + Check.times(sets, "}");
            PolicyJudge x = CHECK.loaded(text);
            CHECK.due("bytes in " + sets + " sets", x.print(0), due.length());
            // Not each byte, so that no object is called more often than promised.
            int step = due.length() / 300 + 1;
            for (int k = sets % step; k < due.length(); k += step) {
                CHECK.due("byte " + k + " in " + sets + " sets", x.out(k), due.charAt(k));
            }
        }
        // Behind a set that has ended lines stand as before it.
        printed("set s one{set t one{set u one{}}permit;}",
            "set s one {\n  set t one {\n    set u one {\n    }\n  }\n  permit;\n}\n");
    }

    // "IllegalStateException: there is none; IndexOutOfBoundsException: another text."
    private static void printRefused() {
        PolicyJudge x = new PolicyJudge();
        CHECK.dueThrows("no texts", Check.STATE, () -> x.print(0), () -> x.print(1));
        CHECK.dueThrows("others", Check.INDEX, () -> x.print(-1), () -> x.print(2));
        CHECK.dueThrow("nothing was printed", Check.INDEX, () -> x.out(0));
        Check.load(x, 1, "set s one{}");
        CHECK.dueThrow("text 0 is not there", Check.STATE, () -> x.print(0));
        CHECK.due("text 1 is", x.print(1), 14);
        Check.load(x, 0, "set");
        CHECK.dueThrow("a fault is no text", Check.STATE, () -> x.print(0));
        CHECK.due("what was printed stays", x.out(13), 10);
        CHECK.dueThrow("and no more", Check.INDEX, () -> x.out(14));
        Check.load(x, 0, "set s one{}");
        CHECK.dueRange("print's text", 0, 1, Check.INDEX, x::print);
    }

    // "out: Byte k of what was printed latest. IndexOutOfBoundsException."
    private static void outFirstAndLast() {
        PolicyJudge x = CHECK.loaded("set s one{}");
        CHECK.dueThrows("nothing printed", Check.INDEX, () -> x.out(0), () -> x.out(-1), () -> x.out(1));
        x.print(0);
        CHECK.dueRange("out", 0, 13, Check.INDEX, x::out);
        CHECK.due("the first", x.out(0), 's');
        CHECK.due("the last", x.out(13), 10);
    }

    private static void outOfTheLatest() {
        PolicyJudge x = CHECK.both("set longername one{permit;}", "set s one{}");
        int first = x.print(0);
        CHECK.due("text 0", x.out(first - 1), 10);
        CHECK.due("text 1", x.print(1), 14);
        CHECK.dueThrow("nothing is left of the longer one", Check.INDEX, () -> x.out(14));
        Check.load(x, 1, "set t one{}");
        CHECK.due("load leaves it", x.out(4), 's');
        x.decide(1);
        x.same();
        x.reach(0, 0, 0);
        x.again();
        x.end(0);
        CHECK.due("and so do others", x.out(4), 's');
        CHECK.due("all of it", x.out(13), 10);
    }

    // "What was printed latest comes on the tape, in place of what is there": nothing, if nothing was printed.
    private static void againWithNothingPrinted() {
        PolicyJudge x = new PolicyJudge();
        CHECK.due("nothing", x.again(), 0);
        Check.tape(x, "set s one{}");
        CHECK.due("nothing in place of a text", x.again(), 0);
        CHECK.dueThrow("an empty tape", Check.ARGUMENT, () -> {
            x.end(1);
            return 0;
        });
        CHECK.due("an empty tape's load", x.load(0), -1);
    }

    private static void againInPlaceOfTheTape() {
        PolicyJudge x = CHECK.loaded("set s one{permit;}");
        int length = x.print(0);
        for (String before : new String[] { "", "?", "set t one{}", Check.times(200, "x") }) {
            Check.tape(x, before);
            CHECK.due("in place of " + before, x.again(), length);
            CHECK.due("a feed behind it", x.feed(0x20202020, 0x20202020, 0x20202020, 0x20202020, 0x20202020), length + 20);
            CHECK.due("load", x.load(1), 2);
            CHECK.due("print stays", x.out(length - 1), 10);
        }
        // Each time it comes anew, though the tape was cut or used up.
        CHECK.due("once", x.again(), length);
        x.end(3);
        CHECK.due("twice", x.again(), length);
        CHECK.due("load", x.load(0), 2);
    }

    /** A text of which so many bytes are printed. */
    private static String textOfPrinted(int bytes) {
        String set = Check.times(20, "set s one{");
        int printed = 0;
        for (int k = 0; k < 20; k++) {
            printed += 2 * k + 12 + 2 * k + 2;
        }
        StringBuilder text = new StringBuilder(set);
        int lines = 0;
        while (bytes - printed >= 2 * (40 + 6) && lines < 79) {
            text.append("deny;");
            printed += 40 + 6;
            lines++;
        }
        // The duties: 40 + 13 bytes each; then one rule with what is left.
        while (bytes - printed >= 2 * (40 + 13) + 60) {
            text.append("duty deny 1;");
            printed += 40 + 13;
        }
        int left = bytes - printed - (40 + 6);
        text.append("deny");
        if (left >= 16) {
            text.append(" with 1");
            left -= 7;
            while (left >= 8) {
                text.append(",1");
                left -= 3;
            }
            text.append(left == 5 ? ",123" : left == 6 ? ",1,1" : ",1,12");
        }
        return text.append(";").append(Check.times(20, "}")).toString();
    }

    // "IllegalStateException: it is more than 6000."
    private static void againAtMost6000() {
        for (int bytes = 5997; bytes <= 6003; bytes++) {
            PolicyJudge x = CHECK.loaded(textOfPrinted(bytes));
            CHECK.due("bytes", x.print(0), bytes);
            CHECK.due("the last", x.out(bytes - 1), 10);
            Check.tape(x, "set s one{} ");
            if (bytes <= 6000) {
                CHECK.due("again", x.again(), bytes);
                CHECK.dueThrow("no room", Check.STATE, () -> x.feed(0, 0, 0, 0, 0));
                CHECK.due("load", x.load(1), x.count(0, 1));
            } else {
                CHECK.dueThrow("again", Check.STATE, x::again);
                CHECK.due("the tape stays", x.feed(0x20202020, 0x20202020, 0x20202020, 0x20202020, 0x20202020), 32);
                CHECK.due("with its bytes", x.load(1), 1);
                CHECK.due("what was printed stays", x.out(bytes - 1), 10);
            }
        }
    }

    // As much as can be: more than three tapes, all of which out() tells.
    private static void againOfMuch() {
        String text = Check.times(19, "set s one{") + Check.times(80, "set s one{}") + "set s one{"
            + Check.times(100, "duty deny 1;") + Check.times(20, "}");
        int due = 100 * (40 + 13);
        for (int k = 0; k < 19; k++) {
            due += 4 * k + 14;
        }
        due += 81 * (4 * 19 + 14);
        PolicyJudge x = CHECK.loaded(text);
        CHECK.due("much", x.print(0), due);
        CHECK.due("its end", x.out(due - 1), 10);
        int bytes = due;
        CHECK.dueThrow("no more", Check.INDEX, () -> x.out(bytes));
        CHECK.dueThrow("again", Check.STATE, x::again);
        CHECK.due("a smaller one", Check.load(x, 0, "set s one{}"), 1);
        CHECK.dueThrow("the latest is still too much", Check.STATE, x::again);
        x.print(0);
        CHECK.due("now it is not", x.again(), 14);
    }
}
