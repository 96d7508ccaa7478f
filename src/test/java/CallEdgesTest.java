/** Promises 1 to 14: for each argument of a call what is just taken and just refused, and what a refused call leaves. */
public final class CallEdgesTest {
    private static final Check CHECK = new Check();
    private static final String EMPTY = "set s one{}";

    public static void main(String[] args) {
        newObject();
        feedUpTo6000();
        feedHighestByteFirst();
        feedRefusedLeavesTheTape();
        endFromNoneToAll();
        endOfAnEmptyTape();
        endRefusedLeavesTheTape();
        loadOfTwoTexts();
        loadMakesAllNew();
        loadWithAFaultKeepsAll();
        loadOfOneLeavesTheOther();
        faultOfTheLatestLoad();
        countOfNothingAndAll();
        nodeFromFirstToLast();
        nodeOfEachSort();
        nameOfEachLength();
        attributeFromFirstToLast();
        bagsOfMany();
        bagsOfOthers();
        bagRefusedLeavesTheBag();
        bagIndexBeforeMask();
        decideRefused();
        decidedBeforeAndBehind();
        decidedOfTheLatestDecide();
        dutyFromFirstToLast();
        callsUpToThe512th();
        CHECK.finish("CallEdgesTest");
    }

    private static int endAt(PolicyJudge x, int n) {
        x.end(n);
        return 0;
    }

    /** A feed of twenty blanks. */
    private static int feedBlanks(PolicyJudge x) {
        return x.feed(0x20202020, 0x20202020, 0x20202020, 0x20202020, 0x20202020);
    }

    // Promise 1: "No texts, an empty tape, nothing printed, no comparison."
    private static void newObject() {
        PolicyJudge x = new PolicyJudge();
        for (int text = 0; text < 2; text++) {
            int t = text;
            for (int what = 0; what < 4; what++) {
                CHECK.due("count", x.count(t, what), 0);
            }
            CHECK.dueThrows("no text", Check.INDEX, () -> x.node(t, 0, 0), () -> x.name(t, 0, 0, -1), () -> x.name(t, 1, 0, -1),
                () -> x.attribute(t, 0, 0), () -> x.bag(t, 0, 0), () -> x.decided(t, 0), () -> x.truth(t, 0),
                () -> x.duty(t, -1), () -> x.duty(t, 0), () -> x.reach(t, 0, 0));
            CHECK.dueThrows("no text", Check.STATE, () -> x.decide(t), () -> x.print(t));
        }
        CHECK.due("no fault", x.fault(), 0);
        CHECK.dueThrow("no texts to compare", Check.STATE, x::same);
        CHECK.dueThrow("no comparison", Check.STATE, () -> x.differ(0, 0));
        CHECK.dueThrow("no witness", Check.INDEX, () -> x.witness(0));
        CHECK.dueThrow("nothing printed", Check.INDEX, () -> x.out(0));
        CHECK.dueThrow("an empty tape", Check.ARGUMENT, () -> endAt(x, 1));
        CHECK.due("an empty tape's end", endAt(x, 0), 0);
        CHECK.due("the first twenty", feedBlanks(x), 20);
        // Two objects have nothing of one another.
        CHECK.due("another one's first twenty", feedBlanks(new PolicyJudge()), 20);
    }

    // Promise 2: "how many it has. IllegalStateException when there would be more than 6000."
    private static void feedUpTo6000() {
        PolicyJudge x = new PolicyJudge();
        for (int k = 1; k <= 300; k++) {
            CHECK.due("feed " + k, feedBlanks(x), 20 * k);
        }
        CHECK.dueThrow("feed 301", Check.STATE, () -> feedBlanks(x));
        CHECK.due("6000 stay", endAt(x, 6000), 0);
        for (int has = 5999; has > 5980; has--) {
            endAt(x, has);
            CHECK.dueThrow("feed behind " + has, Check.STATE, () -> feedBlanks(x));
        }
        endAt(x, 5980);
        CHECK.due("feed behind 5980", feedBlanks(x), 6000);
        endAt(x, 5979);
        CHECK.due("feed behind 5979", feedBlanks(x), 5999);
        CHECK.dueThrow("feed behind 5999", Check.STATE, () -> feedBlanks(x));
    }

    // "Twenty bytes come behind the tape, each number's highest one first": each of the twenty in its place, at all its bits.
    private static void feedHighestByteFirst() {
        for (int place = 0; place < 20; place++) {
            for (int b : new int[] { 0, 1, 127, 128, 254, 255, '?' }) {
                int[] words = { 0x20202020, 0x20202020, 0x20202020, 0x20202020, 0x20202020 };
                int shift = 24 - 8 * (place % 4);
                words[place / 4] = words[place / 4] & ~(255 << shift) | b << shift;
                PolicyJudge x = new PolicyJudge();
                CHECK.due("feed", x.feed(words[0], words[1], words[2], words[3], words[4]), 20);
                CHECK.due("byte " + b + " at " + place, x.load(0), -1 - place);
                CHECK.due("its kind", x.fault(), 1);
            }
        }
        PolicyJudge x = new PolicyJudge();
        x.feed(0x73657420, 0x61626364, 0x65666768, 0x696a6b6c, 0x206f6e65);
        x.feed(0x7b7d2020, 0x20202020, 0x20202020, 0x20202020, 0x20202020);
        CHECK.due("two feeds, one behind the other", x.load(0), 1);
        for (int k = 0; k < 12; k++) {
            CHECK.due("byte of the name", x.name(0, 1, 0, k), 'a' + k);
        }
    }

    // A refused feed leaves the tape, its bytes too.
    private static void feedRefusedLeavesTheTape() {
        PolicyJudge x = new PolicyJudge();
        Check.tape(x, "set s one{" + Check.times(5980, " ") + "}");
        CHECK.dueThrow("one too many", Check.STATE, () -> x.feed(-1, -1, -1, -1, -1));
        CHECK.due("as many as before", endAt(x, 5991), 0);
        CHECK.dueThrow("and no more", Check.ARGUMENT, () -> endAt(x, 5992));
        CHECK.due("and the same", x.load(0), 1);
    }

    // Promise 3: "cut behind its first n bytes. IllegalArgumentException when n is below 0, or more than it has."
    private static void endFromNoneToAll() {
        String text = "set s one{}?abcdefgh";
        int[] due = { -1, -2, -3, -4, -5, -6, -7, -8, -9, -10, -11, 1, -12 };
        for (int n = 0; n <= 20; n++) {
            PolicyJudge x = new PolicyJudge();
            Check.tape(x, text);
            CHECK.due("end " + n, endAt(x, n), 0);
            int cut = n;
            CHECK.dueThrow("more than it has", Check.ARGUMENT, () -> endAt(x, cut + 1));
            CHECK.due("as many as it has", endAt(x, n), 0);
            int answer = x.load(0);
            // A word that was cut may be another one.
            CHECK.due("what is left of " + n, answer, n == 1 || n == 2 ? -1 : n == 7 || n == 8 ? -7 : due[Math.min(n, 12)]);
        }
        PolicyJudge x = new PolicyJudge();
        feedBlanks(x);
        CHECK.dueThrows("refused", Check.ARGUMENT, () -> endAt(x, -1), () -> endAt(x, 21), () -> endAt(x, Integer.MIN_VALUE),
            () -> endAt(x, Integer.MAX_VALUE), () -> endAt(x, 6000));
        CHECK.due("feed", feedBlanks(x), 40);
    }

    private static void endOfAnEmptyTape() {
        PolicyJudge x = new PolicyJudge();
        CHECK.due("end of nothing", endAt(x, 0), 0);
        CHECK.dueThrows("refused", Check.ARGUMENT, () -> endAt(x, 1), () -> endAt(x, -1));
        feedBlanks(x);
        endAt(x, 0);
        CHECK.dueThrow("nothing is left", Check.ARGUMENT, () -> endAt(x, 1));
        CHECK.due("a feed begins anew", feedBlanks(x), 20);
    }

    private static void endRefusedLeavesTheTape() {
        PolicyJudge x = new PolicyJudge();
        Check.tape(x, EMPTY);
        CHECK.dueThrows("refused", Check.ARGUMENT, () -> endAt(x, 12), () -> endAt(x, -1), () -> endAt(x, 20));
        CHECK.due("the tape stays", x.load(0), 1);
        // What was cut off does not come back with a feed.
        Check.tape(x, "set s one{}?????????");
        endAt(x, 11);
        CHECK.due("blanks behind it", feedBlanks(x), 31);
        CHECK.due("load", x.load(0), 1);
    }

    // Promise 4: "The tape is read as text 0 or 1 .. IndexOutOfBoundsException: another text."
    private static void loadOfTwoTexts() {
        PolicyJudge x = new PolicyJudge();
        Check.tape(x, EMPTY);
        CHECK.dueThrows("another text", Check.INDEX, () -> x.load(-1), () -> x.load(2), () -> x.load(Integer.MIN_VALUE),
            () -> x.load(Integer.MAX_VALUE));
        CHECK.due("the tape stays", endAt(x, 11), 0);
        CHECK.due("no text came", x.count(0, 1) + x.count(1, 1), 0);
        CHECK.due("text 1", x.load(1), 1);
        CHECK.due("not text 0", x.count(0, 1), 0);
        CHECK.due("text 0", Check.load(x, 0, "set s one{permit;}"), 2);
        CHECK.due("not text 1", x.count(1, 1), 1);
        CHECK.due("-1 less the least place", Check.load(x, 0, "?"), -1);
        CHECK.due("-1 less the greatest place", Check.load(x, 0, Check.times(6000, " ")), -6001);
    }

    // "all its bags being empty, nothing decided, no comparison and no WITNESS any more"
    private static void loadMakesAllNew() {
        String text = "attr a 2;attr b 2 many;set s first{permit for a has 1 with 1;}";
        for (int t = 0; t < 2; t++) {
            int loaded = t;
            PolicyJudge x = CHECK.both(text, text);
            x.bag(loaded, 0, 2);
            x.bag(loaded, 1, 3);
            x.decide(loaded);
            x.same();
            x.reach(loaded, 0, 1);
            CHECK.due("the same text again", Check.load(x, loaded, text), 2);
            CHECK.due("an empty bag", x.attribute(loaded, 0, 3), 0);
            CHECK.due("an empty bag", x.attribute(loaded, 1, 3), 0);
            CHECK.dueThrows("nothing decided", Check.INDEX, () -> x.decided(loaded, 0), () -> x.truth(loaded, 0),
                () -> x.duty(loaded, -1), () -> x.duty(loaded, 0));
            CHECK.dueThrow("no comparison", Check.STATE, () -> x.differ(0, 0));
            CHECK.dueThrow("no witness", Check.INDEX, () -> x.witness(0));
        }
    }

    // "-1 less the PLACE of its FAULT: what there was stays"
    private static void loadWithAFaultKeepsAll() {
        PolicyJudge x = CHECK.both("attr a 2;set s first{permit n for a has 1 with 1,2;}", "attr a 2;" + EMPTY);
        x.bag(0, 0, 2);
        x.decide(0);
        x.same();
        x.print(0);
        String[] faults = { "", "?", "attr b 3;set t one{}}", "attr b 3 many must;set t denies{duty deny 1;deny m for b none;", "set" };
        for (int k = 0; k < 2 * faults.length; k++) {
            CHECK.due("a fault", Check.load(x, k % 2, faults[k / 2]) < 0 ? 1 : 0, 1);
            int[] counts = { 1, 2, 1, 2 };
            for (int what = 0; what < 4; what++) {
                CHECK.due("count", x.count(0, what), counts[what]);
            }
            CHECK.due("a name", x.name(0, 0, 0, 0), 'a');
            CHECK.due("a rule's name", x.name(0, 1, 1, 0), 'n');
            CHECK.due("a bag", x.attribute(0, 0, 3), 2);
            CHECK.due("decided", x.decided(0, 0), 1);
            CHECK.due("truth", x.truth(0, 1), 1);
            CHECK.due("duties", x.duty(0, 1), 2);
            CHECK.due("a witness", x.witness(0), 2);
            CHECK.due("a comparison", x.differ(1, 0), 1);
            CHECK.due("printed", x.out(0), 'a');
            CHECK.due("text 1", x.count(1, 1), 1);
        }
        PolicyJudge none = new PolicyJudge();
        Check.load(none, 0, "attr a 1;set s one{permit;");
        CHECK.due("where there was none, there is none", none.count(0, 0) + none.count(0, 1), 0);
        CHECK.dueThrow("where there was none, there is none", Check.STATE, () -> none.decide(0));
    }

    // "all its bags": those of the other text, and what it decided, are not its own.
    private static void loadOfOneLeavesTheOther() {
        String text = "attr a 2;set s first{permit for a has 1 with 7;}";
        for (int t = 0; t < 2; t++) {
            PolicyJudge x = CHECK.both(text, text);
            int other = 1 - t;
            x.bag(other, 0, 2);
            x.decide(other);
            CHECK.due("load", Check.load(x, t, "attr a 1;" + EMPTY), 1);
            CHECK.due("the other's bag", x.attribute(other, 0, 3), 2);
            CHECK.due("the other's decision", x.decided(other, 0), 1);
            CHECK.due("the other's truth", x.truth(other, 1), 1);
            CHECK.due("the other's duty", x.duty(other, 0), 7);
            CHECK.due("the other's nodes", x.count(other, 1), 2);
        }
    }

    // Promise 5: "The KIND of the FAULT of the latest load(); 0 without one."
    private static void faultOfTheLatestLoad() {
        String[] texts = { "?", "x", "set s one for a none{}", "attr a 9;", Check.times(21, "set s one{"), EMPTY };
        for (int first = 0; first < 6; first++) {
            PolicyJudge x = new PolicyJudge();
            for (int second = 0; second < 6; second++) {
                Check.load(x, first % 2, texts[first]);
                CHECK.due("fault", x.fault(), (first + 1) % 6);
                Check.load(x, second % 2, texts[second]);
                CHECK.due("fault of the latest", x.fault(), (second + 1) % 6);
            }
        }
        PolicyJudge x = CHECK.both(EMPTY, EMPTY);
        Check.load(x, 0, texts[3]);
        CHECK.dueThrow("a refused load", Check.INDEX, () -> x.load(2));
        CHECK.due("is none", x.fault(), 4);
        feedBlanks(x);
        x.end(0);
        x.decide(0);
        x.same();
        x.print(1);
        x.again();
        CHECK.due("nor are other calls", x.fault(), 4);
    }

    // Promise 6: "0 without a text. IndexOutOfBoundsException: another text, what."
    private static void countOfNothingAndAll() {
        PolicyJudge x = new PolicyJudge();
        CHECK.dueRange("count's text, of none", 0, 1, Check.INDEX, text -> x.count(text, 0));
        CHECK.dueRange("count's what, of none", 0, 3, Check.INDEX, what -> x.count(0, what));
        Check.load(x, 0, EMPTY);
        int[] due = { 0, 1, 0, 0 };
        for (int what = 0; what < 4; what++) {
            CHECK.due("count of the least", x.count(0, what), due[what]);
            CHECK.due("count of none", x.count(1, what), 0);
        }
        CHECK.dueRange("count's text", 0, 1, Check.INDEX, text -> x.count(text, 3));
        CHECK.dueRange("count's what", 0, 3, Check.INDEX, what -> x.count(0, what));
    }

    // Promise 7: the first node and the last of a hundred; each what.
    private static void nodeFromFirstToLast() {
        PolicyJudge x = CHECK.both("set s one{" + Check.times(98, "deny;") + "permit;}", EMPTY);
        CHECK.dueRange("node's i", 0, 99, Check.INDEX, i -> x.node(0, i, 0));
        CHECK.dueRange("node's i of one", 0, 0, Check.INDEX, i -> x.node(1, i, 0));
        CHECK.dueRange("node's what", 0, 5, Check.INDEX, what -> x.node(0, 0, what));
        CHECK.dueRange("node's what of a rule", 0, 5, Check.INDEX, what -> x.node(0, 99, what));
        CHECK.dueRange("node's text", 0, 1, Check.INDEX, text -> x.node(text, 0, 0));
        CHECK.due("the last but one's sort", x.node(0, 98, 0), 1);
        CHECK.due("the last one's sort", x.node(0, 99, 0), 0);
        CHECK.due("children", x.node(0, 0, 3), 99);
        PolicyJudge half = CHECK.loaded(EMPTY);
        CHECK.dueThrow("text 1 is not there", Check.INDEX, () -> half.node(1, 0, 0));
    }

    // "1 its way (..; NONE of a rule), 2 the set around it (NONE), 3 how many children, 4 how many duties of its own, 5 .."
    private static void nodeOfEachSort() {
        PolicyJudge x = CHECK.loaded("set s elsepermit{permit with 1" + Check.times(96, ",1")
            + ";set t one for true{duty deny 1;duty permit 1;deny for true with 2;}set u first{}}");
        int[][] due = { { 2, 5, -1, 3, 0, 0 }, { 0, -1, 0, 0, 97, 0 }, { 2, 3, 0, 1, 2, 1 }, { 1, -1, 2, 0, 1, 1 }, { 2, 2, 0, 0, 0, 0 } };
        for (int i = 0; i < 5; i++) {
            for (int what = 0; what < 6; what++) {
                CHECK.due("node(0, " + i + ", " + what + ")", x.node(0, i, what), due[i][what]);
            }
        }
    }

    // Promise 8: "byte k; k = NONE: how many it has (0 without a name). IndexOutOfBoundsException."
    private static void nameOfEachLength() {
        String twelve = "aZ_09bcdefgh";
        for (int length = 1; length <= 12; length++) {
            String name = twelve.substring(0, length);
            PolicyJudge x = CHECK.loaded("attr " + name + " 1;set " + name + " one{permit " + name + ";deny;}");
            for (int node = -1; node < 2; node++) {
                int which = node < 0 ? 0 : 1;
                int i = Math.max(node, 0);
                CHECK.due("how many", x.name(0, which, i, -1), length);
                for (int k = 0; k < length; k++) {
                    CHECK.due("byte", x.name(0, which, i, k), name.charAt(k));
                }
                CHECK.dueRange("name's k", -1, length - 1, Check.INDEX, k -> x.name(0, which, i, k));
            }
            CHECK.due("without a name", x.name(0, 1, 2, -1), 0);
            CHECK.dueRange("k of no name", -1, -1, Check.INDEX, k -> x.name(0, 1, 2, k));
            CHECK.dueRange("name's which", 0, 1, Check.INDEX, which -> x.name(0, which, 0, -1));
            CHECK.dueRange("name's attribute", 0, 0, Check.INDEX, i -> x.name(0, 0, i, -1));
            CHECK.dueRange("name's node", 0, 2, Check.INDEX, i -> x.name(0, 1, i, -1));
            CHECK.dueRange("name's text", 0, 0, Check.INDEX, text -> x.name(text, 0, 0, -1));
        }
        PolicyJudge none = CHECK.loaded(EMPTY);
        CHECK.dueThrow("no attribute", Check.INDEX, () -> none.name(0, 0, 0, -1));
        CHECK.due("a node", none.name(0, 1, 0, 0), 's');
    }

    // Promise 9
    private static void attributeFromFirstToLast() {
        StringBuilder eight = new StringBuilder();
        for (int i = 0; i < 8; i++) {
            eight.append("attr a").append(i).append(' ').append(i + 1);
            eight.append(i % 2 > 0 ? " many" : "").append(i > 3 ? " must" : "").append(";");
        }
        PolicyJudge x = CHECK.both(eight + EMPTY, "attr a 1;" + EMPTY);
        for (int i = 0; i < 8; i++) {
            CHECK.due("SIZE", x.attribute(0, i, 0), i + 1);
            CHECK.due("many", x.attribute(0, i, 1), i % 2);
            CHECK.due("must", x.attribute(0, i, 2), i / 4);
            CHECK.due("bag", x.attribute(0, i, 3), 0);
        }
        CHECK.dueRange("attribute's i", 0, 7, Check.INDEX, i -> x.attribute(0, i, 0));
        CHECK.dueRange("attribute's i of one", 0, 0, Check.INDEX, i -> x.attribute(1, i, 3));
        CHECK.dueRange("attribute's what", 0, 3, Check.INDEX, what -> x.attribute(0, 7, what));
        CHECK.dueRange("attribute's text", 0, 1, Check.INDEX, text -> x.attribute(text, 0, 0));
        PolicyJudge none = CHECK.loaded(EMPTY);
        CHECK.dueThrows("no attributes", Check.INDEX, () -> none.attribute(0, 0, 0), () -> none.attribute(1, 0, 0),
            () -> none.bag(0, 0, 0));
    }

    // Promise 10, and "any of many": all masks of SIZE bits, and none beyond.
    private static void bagsOfMany() {
        for (int size = 1; size <= 8; size++) {
            int most = (1 << size) - 1;
            for (int from = 0; from <= most; from += 64) {
                PolicyJudge x = CHECK.loaded("attr z 8 many;attr a " + size + " many;" + EMPTY);
                int before = 0;
                for (int mask = from; mask <= Math.min(most, from + 63); mask++) {
                    CHECK.due("the mask before", x.bag(0, 1, mask), before);
                    CHECK.due("the mask now", x.attribute(0, 1, 3), mask);
                    before = mask;
                }
                CHECK.due("another's bag", x.attribute(0, 0, 3), 0);
                CHECK.dueRange("bag of many of " + size, 0, most, Check.ARGUMENT, mask -> x.bag(0, 1, mask));
                for (int bit = size; bit < 32; bit++) {
                    int mask = 1 << bit | 1;
                    CHECK.dueThrow("value " + bit, Check.ARGUMENT, () -> x.bag(0, 1, mask));
                }
            }
        }
    }

    // "of others none or one"
    private static void bagsOfOthers() {
        for (int size = 1; size <= 8; size++) {
            for (String must : new String[] { ";", " must;" }) {
                PolicyJudge x = CHECK.loaded("attr a " + size + must + EMPTY);
                int before = 0;
                for (int mask = 0; mask <= 256; mask += mask < 16 ? 1 : 8) {
                    int tried = mask;
                    if (mask < 1 << size && Integer.bitCount(mask) <= 1) {
                        CHECK.due("the mask before", x.bag(0, 0, mask), before);
                        before = mask;
                    } else {
                        CHECK.dueThrow("mask " + mask + " of " + size, Check.ARGUMENT, () -> x.bag(0, 0, tried));
                    }
                }
                CHECK.dueRange("bag of one of " + size, 0, 1 << size - 1, Check.ARGUMENT, mask -> x.bag(0, 0, mask));
                for (int bit = size; bit < 32; bit++) {
                    int mask = 1 << bit;
                    CHECK.dueThrow("value " + bit + " of " + size, Check.ARGUMENT, () -> x.bag(0, 0, mask));
                }
            }
        }
    }

    private static void bagRefusedLeavesTheBag() {
        PolicyJudge x = CHECK.loaded("attr a 3;attr b 3 many;" + EMPTY);
        x.bag(0, 0, 4);
        x.bag(0, 1, 5);
        CHECK.dueThrows("no bag", Check.ARGUMENT, () -> x.bag(0, 0, 3), () -> x.bag(0, 0, 8), () -> x.bag(0, 1, 8), () -> x.bag(0, 1, -1));
        CHECK.due("stays", x.attribute(0, 0, 3), 4);
        CHECK.due("stays", x.attribute(0, 1, 3), 5);
        CHECK.due("the same again", x.bag(0, 0, 4), 4);
        CHECK.due("none again", x.bag(0, 0, 0), 4);
        CHECK.due("of none", x.bag(0, 0, 0), 0);
    }

    // "IndexOutOfBoundsException: there is no such attribute; IllegalArgumentException: the mask is none of its bags"
    private static void bagIndexBeforeMask() {
        PolicyJudge x = CHECK.both("attr a 1;attr b 1;" + EMPTY, "attr a 1;" + EMPTY);
        CHECK.dueRange("bag's i", 0, 1, Check.INDEX, i -> x.bag(0, i, 1));
        CHECK.dueRange("bag's i of one", 0, 0, Check.INDEX, i -> x.bag(1, i, 1));
        CHECK.dueRange("bag's text", 0, 1, Check.INDEX, text -> x.bag(text, 0, 1));
        // Without an attribute no mask is one of its bags.
        CHECK.dueThrows("no attribute, and no mask", Check.INDEX, () -> x.bag(0, 2, 9), () -> x.bag(0, -1, -1), () -> x.bag(2, 0, -1));
        PolicyJudge half = CHECK.loaded("attr a 1;" + EMPTY);
        CHECK.dueThrow("text 1 is not there", Check.INDEX, () -> half.bag(1, 0, 0));
    }

    // Promise 11: "IllegalStateException: there is no text; IndexOutOfBoundsException: another text."
    private static void decideRefused() {
        PolicyJudge x = CHECK.loaded(EMPTY);
        CHECK.dueThrow("text 1 is not there", Check.STATE, () -> x.decide(1));
        CHECK.dueThrows("others", Check.INDEX, () -> x.decide(-1), () -> x.decide(2));
        CHECK.dueThrow("nothing was decided by that", Check.INDEX, () -> x.decided(0, 0));
        Check.load(x, 1, EMPTY);
        CHECK.dueRange("decide's text", 0, 1, Check.INDEX, x::decide);
    }

    // Promises 12 and 13: "there is no such node, or nothing was decided", from the first node to the last of a hundred.
    private static void decidedBeforeAndBehind() {
        PolicyJudge x = CHECK.both("set s first{" + Check.times(98, "permit for false;") + "deny for error;}", EMPTY);
        CHECK.dueThrows("nothing was decided", Check.INDEX, () -> x.decided(0, 0), () -> x.truth(0, 0),
            () -> x.decided(0, 99), () -> x.truth(0, 99));
        x.decide(0);
        CHECK.due("the last", x.decided(0, 99), 4);
        CHECK.due("the last one's truth", x.truth(0, 99), 2);
        CHECK.dueRange("decided's i", 0, 99, Check.INDEX, i -> x.decided(0, i));
        CHECK.dueRange("truth's i", 0, 99, Check.INDEX, i -> x.truth(0, i));
        CHECK.dueRange("decided's text", 0, 0, Check.INDEX, text -> x.decided(text, 0));
        CHECK.dueRange("truth's text", 0, 0, Check.INDEX, text -> x.truth(text, 0));
        CHECK.dueThrow("the other text decided nothing", Check.INDEX, () -> x.duty(1, -1));
        x.decide(1);
        CHECK.dueRange("decided's text", 0, 1, Check.INDEX, text -> x.decided(text, 0));
        CHECK.dueRange("truth's text", 0, 1, Check.INDEX, text -> x.truth(text, 0));
        CHECK.dueRange("decided's i of one", 0, 0, Check.INDEX, i -> x.decided(1, i));
    }

    // "What a node decided in the latest decide() of its text": not what it would decide now.
    private static void decidedOfTheLatestDecide() {
        PolicyJudge x = CHECK.loaded("attr a 2;set s first{permit for a has 1 with 3;deny for a has 0 with 4,5;}");
        x.bag(0, 0, 2);
        CHECK.due("decide", x.decide(0), 1);
        x.bag(0, 0, 1);
        CHECK.due("as before", x.decided(0, 0), 1);
        CHECK.due("truth as before", x.truth(0, 2), 0);
        CHECK.due("duties as before", x.duty(0, 0), 3);
        CHECK.dueThrow("a refused bag", Check.ARGUMENT, () -> x.bag(0, 0, 3));
        CHECK.due("as before", x.decided(0, 0), 1);
        CHECK.due("decide", x.decide(0), 2);
        CHECK.due("as now", x.decided(0, 0), 2);
        CHECK.due("truth as now", x.truth(0, 2), 1);
        CHECK.due("duties as now", x.duty(0, -1), 2);
        x.bag(0, 0, 0);
        CHECK.due("decide", x.decide(0), 0);
        CHECK.due("no duties now", x.duty(0, -1), 0);
    }

    // Promise 14: "the k-th NUMBER; k = NONE: how many. IndexOutOfBoundsException: there is none such, or nothing was decided."
    private static void dutyFromFirstToLast() {
        PolicyJudge x = CHECK.both("set s first{permit with 7" + Check.times(98, ",0") + ",999;}", EMPTY);
        CHECK.dueThrows("nothing was decided", Check.INDEX, () -> x.duty(0, -1), () -> x.duty(0, 0));
        x.decide(0);
        x.decide(1);
        CHECK.due("how many", x.duty(0, -1), 100);
        CHECK.due("the first", x.duty(0, 0), 7);
        CHECK.due("the last", x.duty(0, 99), 999);
        CHECK.dueRange("duty's k", -1, 99, Check.INDEX, k -> x.duty(0, k));
        CHECK.dueRange("duty's k of none", -1, -1, Check.INDEX, k -> x.duty(1, k));
        CHECK.dueRange("duty's text", 0, 1, Check.INDEX, text -> x.duty(text, -1));
    }

    // "An object is used for at most 512 calls": the 512th is answered like the first.
    private static void callsUpToThe512th() {
        PolicyJudge x = new PolicyJudge();
        int calls = 0;
        for (int turn = 0; turn < 127; turn++) {
            CHECK.due("feed", x.feed(0x73657420, 0x7320656c, 0x73656465, 0x6e797b7d, 0x20202020), 20);
            CHECK.due("load", x.load(turn % 2), 1);
            CHECK.due("decide", x.decide(turn % 2), 2);
            CHECK.due("print", x.print(turn % 2), 19);
            calls += 4;
        }
        for (int k = 0; k < 4; k++) {
            CHECK.due("out", x.out(k), "set ".charAt(k));
            calls++;
        }
        CHECK.due("calls", calls, 512);

        PolicyJudge full = new PolicyJudge();
        for (int k = 0; k < 300; k++) {
            feedBlanks(full);
        }
        for (int k = 0; k < 211; k++) {
            CHECK.dueThrow("a full tape", Check.STATE, () -> feedBlanks(full));
        }
        CHECK.due("the 512th", full.load(0), -6001);
    }
}
