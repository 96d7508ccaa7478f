import java.util.Arrays;

/**
 * Policies in texts, judged, compared and printed again. README.md shows its use.
 *
 * All rows are made once, with the object: no call but a throwing one makes an object.
 */
public final class PolicyJudge {
    public static final int NONE = -1, MISFIT = -2, TOO_MANY = -3;

    private static final int TEXTS = 2;
    private static final int TAPE_MOST = 6000;
    private static final int FED_AT_ONCE = 20;
    private static final int ATTRIBUTES_MOST = 8;
    private static final int NODES_MOST = 100;
    private static final int PARTS_MOST = 400;
    private static final int DUTIES_MOST = 100;
    private static final int DEPTH_MOST = 20;
    private static final int NAME_MOST = 12;
    private static final int DIGITS_MOST = 3;
    private static final int NUMBERS = 1000;
    private static final int SIZE_MOST = 8;
    private static final int REQUESTS_MOST = 4096;

    // An or and an and for each bracket, and those around all brackets; then one part alone.
    private static final int LEVELS_MOST = 2 * (DEPTH_MOST + 1) + 1;

    // A sign of the tape brings two blanks at most and takes two bytes beside it on the tape: 10000
    // bytes. Blanks before lines: 40 for 100 nodes and for 100 duties, 38 before the } of 100 sets.
    private static final int PRINTED_MOST = 22000;

    private static final int FALSE = 0, TRUE = 1, ERROR = 2;

    private static final int NEITHER = 0, PERMIT = 1, DENY = 2, BOTH_MAYBE = 5;
    private static final int DECISIONS = 6;
    // From PERMIT to PERMIT?, and from DENY to DENY?.
    private static final int MAYBE = 2;

    private static final int PERMIT_RULE = 0, DENY_RULE = 1, SET = 2;

    private static final int DENIES = 0, PERMITS = 1, FIRST = 2, ONE = 3, ELSE_DENY = 4;
    private static final int WAYS = 6;

    private static final int BAD_TOKEN = 1, MISPLACED = 2, BAD_NAME = 3, BAD_VALUE = 4, TOO_MUCH = 5;

    private final Reader reader = new Reader();
    private final Text[] texts = { new Text(), new Text() };
    private final Survey survey = new Survey();
    private final Printer printer = new Printer();

    public PolicyJudge() {
    }

    public int feed(int a, int b, int c, int d, int e) throws IllegalStateException {
        Tape tape = reader.tape;
        if (tape.length > TAPE_MOST - FED_AT_ONCE) {
            throw new IllegalStateException("the tape would be too long");
        }
        tape.append(a);
        tape.append(b);
        tape.append(c);
        tape.append(d);
        tape.append(e);
        return tape.length;
    }

    public void end(int n) throws IllegalArgumentException {
        if (n < 0 || n > reader.tape.length) {
            throw new IllegalArgumentException("the tape has no such length");
        }
        reader.tape.length = n;
    }

    public int load(int text) throws IndexOutOfBoundsException {
        checkText(text);
        reader.begin();
        reader.readPolicy();
        if (reader.kind != 0) {
            return -1 - reader.place;
        }
        texts[text] = reader.exchange(texts[text]);
        survey.forget();
        return texts[text].nodes.count;
    }

    public int fault() {
        return reader.kind;
    }

    public int count(int text, int what) throws IndexOutOfBoundsException {
        checkText(text);
        checkIndex(what, 4);
        Text asked = texts[text];
        if (!asked.present) {
            return 0;
        }
        switch (what) {
            case 0:
                return asked.attributes.count;
            case 1:
                return asked.nodes.count;
            case 2:
                return asked.parts.count;
            default:
                return asked.nodes.duties;
        }
    }

    public int node(int text, int i, int what) throws IndexOutOfBoundsException {
        Nodes nodes = presentText(text).nodes;
        checkIndex(i, nodes.count);
        checkIndex(what, 6);
        switch (what) {
            case 0:
                return nodes.sort[i];
            case 1:
                return nodes.way[i];
            case 2:
                return nodes.around[i];
            case 3:
                return nodes.children[i];
            case 4:
                return nodes.ownDuties[i];
            default:
                return nodes.expression[i] == NONE ? 0 : 1;
        }
    }

    public int name(int text, int which, int i, int k) throws IndexOutOfBoundsException {
        Text asked = presentText(text);
        checkIndex(which, 2);
        checkIndex(i, which == 0 ? asked.attributes.count : asked.nodes.count);
        Names names = which == 0 ? asked.attributes.names : asked.nodes.names;
        if (k == NONE) {
            return names.lengths[i];
        }
        checkIndex(k, names.lengths[i]);
        return names.letter(i, k);
    }

    public int attribute(int text, int i, int what) throws IndexOutOfBoundsException {
        Attributes attributes = presentText(text).attributes;
        checkIndex(i, attributes.count);
        checkIndex(what, 4);
        switch (what) {
            case 0:
                return attributes.size[i];
            case 1:
                return attributes.many[i] ? 1 : 0;
            case 2:
                return attributes.must[i] ? 1 : 0;
            default:
                return attributes.bag[i];
        }
    }

    public int bag(int text, int i, int mask) throws IndexOutOfBoundsException, IllegalArgumentException {
        Attributes attributes = presentText(text).attributes;
        checkIndex(i, attributes.count);
        if (!attributes.allows(i, mask)) {
            throw new IllegalArgumentException("the attribute has no such bag");
        }
        int before = attributes.bag[i];
        attributes.bag[i] = mask;
        return before;
    }

    public int decide(int text) throws IndexOutOfBoundsException, IllegalStateException {
        Text asked = neededText(text);
        asked.verdict.judge(asked, asked.attributes.bag, 0);
        asked.verdict.collectDuties(asked.nodes);
        asked.judged = true;
        return asked.verdict.decisions[0];
    }

    public int decided(int text, int i) throws IndexOutOfBoundsException {
        Text asked = judgedText(text);
        checkIndex(i, asked.nodes.count);
        return asked.verdict.decisions[i];
    }

    public int truth(int text, int i) throws IndexOutOfBoundsException {
        Text asked = judgedText(text);
        checkIndex(i, asked.nodes.count);
        return asked.verdict.truths[i];
    }

    public int duty(int text, int k) throws IndexOutOfBoundsException {
        Verdict verdict = judgedText(text).verdict;
        if (k == NONE) {
            return verdict.owedCount;
        }
        checkIndex(k, verdict.owedCount);
        return verdict.owed[k];
    }

    public int same() throws IllegalStateException {
        if (!texts[0].present || !texts[1].present) {
            throw new IllegalStateException("a text is not there");
        }
        if (!survey.pair(texts[0].attributes, texts[1].attributes)) {
            return MISFIT;
        }
        if (texts[0].attributes.requests() > REQUESTS_MOST) {
            return TOO_MANY;
        }
        return survey.compare(texts[0], texts[1]) ? 1 : 0;
    }

    public int differ(int one, int other) throws IndexOutOfBoundsException, IllegalStateException {
        checkIndex(one, DECISIONS);
        checkIndex(other, DECISIONS);
        if (!survey.compared) {
            throw new IllegalStateException("the texts were not compared");
        }
        return survey.tally[one * DECISIONS + other];
    }

    public int reach(int text, int i, int decision) throws IndexOutOfBoundsException {
        Text asked = presentText(text);
        checkIndex(i, asked.nodes.count);
        checkIndex(decision, DECISIONS);
        if (asked.attributes.requests() > REQUESTS_MOST) {
            return TOO_MANY;
        }
        return survey.search(asked, i, decision) ? 1 : 0;
    }

    public int witness(int i) throws IndexOutOfBoundsException {
        checkIndex(i, survey.witnessed);
        return survey.witness[i];
    }

    public int print(int text) throws IndexOutOfBoundsException, IllegalStateException {
        printer.write(neededText(text));
        return printer.length;
    }

    public int out(int k) throws IndexOutOfBoundsException {
        checkIndex(k, printer.length);
        return printer.bytes[k];
    }

    public int again() throws IllegalStateException {
        if (printer.length > TAPE_MOST) {
            throw new IllegalStateException("too much was printed for the tape");
        }
        reader.tape.replace(printer.bytes, printer.length);
        return printer.length;
    }

    private static void checkIndex(int i, int count) {
        if (i < 0 || i >= count) {
            throw new IndexOutOfBoundsException("there is none such");
        }
    }

    private static void checkText(int text) {
        if (text < 0 || text >= TEXTS) {
            throw new IndexOutOfBoundsException("there are texts 0 and 1 alone");
        }
    }

    private Text presentText(int text) {
        checkText(text);
        if (!texts[text].present) {
            throw new IndexOutOfBoundsException("no text, so nothing in it");
        }
        return texts[text];
    }

    private Text judgedText(int text) {
        Text asked = presentText(text);
        if (!asked.judged) {
            throw new IndexOutOfBoundsException("nothing was decided");
        }
        return asked;
    }

    private Text neededText(int text) {
        checkText(text);
        if (!texts[text].present) {
            throw new IllegalStateException("there is no text");
        }
        return texts[text];
    }

    /** The kinds of tokens; those of tests and joints are the kinds of parts, too. */
    private static final class Word {
        static final int ATTR = 1, MANY = 2, MUST = 3, SET = 4, FOR = 5, PERMIT = 6, DENY = 7, WITH = 8, DUTY = 9;
        static final int OR = 10, AND = 11, NOT = 12, TRUE = 13, FALSE = 14, ERROR = 15;
        static final int HAS = 16, IN = 17, ONLY = 18, MEETS = 19, IS = 20, NONE = 21;
        static final int DENIES = 22, PERMITS = 23, FIRST = 24, ONE = 25, ELSE_DENY = 26, ELSE_PERMIT = 27;
        static final int LAST = ELSE_PERMIT;

        // Signs are their own bytes.
        static final int OPEN = '(', CLOSE = ')', COMMA = ',', SEMICOLON = ';';
        static final int LESS = '<', EQUAL = '=', MORE = '>', OPEN_CURLY = '{', CLOSE_CURLY = '}';

        static final int NAME = 128, NUMBER = 129, END = 130, BAD = 131;

        // Rows of letters: every word of every text is looked for in them, and no text is made for it.
        static Names spellings() {
            Names words = new Names(LAST + 1);
            words.spell(ATTR, "attr many must set for permit deny with duty");
            words.spell(OR, "or and not true false error");
            words.spell(HAS, "has in only meets is none");
            words.spell(DENIES, "denies permits first one elsedeny elsepermit");
            return words;
        }
    }

    /** The bytes that were fed, and the tokens that they are cut into. */
    private static final class Tape {
        final int[] bytes = new int[TAPE_MOST];
        int length;

        final int[] kinds = new int[TAPE_MOST + 1];
        final int[] places = new int[TAPE_MOST + 1];
        // Of a NUMBER the number, of a word how many bytes it has.
        final int[] values = new int[TAPE_MOST + 1];
        int tokens;

        private final Names words = Word.spellings();

        void append(int fourBytes) {
            for (int shift = 24; shift >= 0 && length < TAPE_MOST; shift -= 8) {
                bytes[length] = fourBytes >>> shift & 255;
                length++;
            }
        }

        void replace(int[] others, int count) {
            length = Math.max(0, Math.min(count, Math.min(TAPE_MOST, others.length)));
            System.arraycopy(others, 0, bytes, 0, length);
        }

        // A bad token does not end this: only the reader knows whether it comes as far as that.
        void cutIntoTokens() {
            tokens = 0;
            for (int at = 0; at < length; at += Math.max(1, cutToken(at))) {
            }
            addToken(Word.END, length, 0);
        }

        private int cutToken(int at) {
            int first = bytes[at];
            if (isBlank(first)) {
                return 1;
            }
            if (isSign(first)) {
                addToken(first, at, 1);
                return 1;
            }
            int width = runLength(at);
            if (isLetter(first)) {
                addToken(width > NAME_MOST ? Word.BAD : wordAt(at, width), at, width);
            } else if (isDigit(first)) {
                int number = numberAt(at, width);
                addToken(number == NONE ? Word.BAD : Word.NUMBER, at, number);
            } else {
                addToken(Word.BAD, at, 1);
            }
            return width;
        }

        private void addToken(int kind, int place, int value) {
            if (tokens <= TAPE_MOST) {
                kinds[tokens] = kind;
                places[tokens] = place;
                values[tokens] = value;
                tokens++;
            }
        }

        private int runLength(int at) {
            int end = at;
            while (end < length && (isLetter(bytes[end]) || isDigit(bytes[end]) || bytes[end] == '_')) {
                end++;
            }
            return end - at;
        }

        private int wordAt(int at, int width) {
            int word = words.find(Word.LAST + 1, bytes, at, width);
            return word == NONE ? Word.NAME : word;
        }

        private int numberAt(int at, int width) {
            if (width > DIGITS_MOST) {
                return NONE;
            }
            int number = 0;
            for (int k = at; k < at + width; k++) {
                if (!isDigit(bytes[k])) {
                    return NONE;
                }
                number = number * 10 + bytes[k] - '0';
            }
            return number;
        }

        private static boolean isBlank(int b) {
            return b == 9 || b == 10 || b == 13 || b == 32;
        }

        private static boolean isLetter(int b) {
            return b >= 'a' && b <= 'z' || b >= 'A' && b <= 'Z';
        }

        private static boolean isDigit(int b) {
            return b >= '0' && b <= '9';
        }

        private static boolean isSign(int b) {
            return b == Word.OPEN || b == Word.CLOSE || b == Word.COMMA || b == Word.SEMICOLON
                || b == Word.LESS || b == Word.EQUAL || b == Word.MORE
                || b == Word.OPEN_CURLY || b == Word.CLOSE_CURLY;
        }
    }

    /** Names of things that are numbered from 0; one of length 0 is no name. */
    private static final class Names {
        final int[] lengths;
        private final int[] letters;

        // A constructor throws nothing, so a wrong number becomes a harmless one.
        Names(int most) {
            lengths = new int[Math.max(0, most)];
            letters = new int[Math.max(0, most) * NAME_MOST];
        }

        void put(int i, int[] bytes, int from, int length) {
            lengths[i] = Math.min(length, NAME_MOST);
            for (int k = 0; k < lengths[i]; k++) {
                letters[i * NAME_MOST + k] = bytes[from + k];
            }
        }

        // Words with a blank between two, numbered from the first one's number on.
        void spell(int first, String all) {
            int i = Math.max(0, first);
            for (int k = 0; k < all.length() && i < lengths.length; k++) {
                if (all.charAt(k) == ' ') {
                    i++;
                } else if (lengths[i] < NAME_MOST) {
                    letters[i * NAME_MOST + lengths[i]] = all.charAt(k);
                    lengths[i]++;
                }
            }
        }

        int letter(int i, int k) {
            return letters[i * NAME_MOST + k];
        }

        int find(int count, int[] bytes, int from, int length) {
            for (int i = 0; i < count; i++) {
                int alike = 0;
                while (alike < length && alike < lengths[i] && letters[i * NAME_MOST + alike] == bytes[from + alike]) {
                    alike++;
                }
                if (alike == length && alike == lengths[i]) {
                    return i;
                }
            }
            return NONE;
        }

        int findLike(int count, Names others, int other) {
            return find(count, others.letters, other * NAME_MOST, others.lengths[other]);
        }
    }

    private static final class Attributes {
        int count;
        final Names names = new Names(ATTRIBUTES_MOST);
        final int[] size = new int[ATTRIBUTES_MOST];
        final boolean[] many = new boolean[ATTRIBUTES_MOST];
        final boolean[] must = new boolean[ATTRIBUTES_MOST];
        final int[] bag = new int[ATTRIBUTES_MOST];

        boolean allows(int i, int mask) {
            return mask >= 0 && mask < 1 << size[i] && (many[i] || Integer.bitCount(mask) <= 1);
        }

        // Stops early, since all of them may be more than a long can tell.
        int requests() {
            int requests = 1;
            for (int i = 0; i < count && requests <= REQUESTS_MOST; i++) {
                requests *= many[i] ? 1 << size[i] : size[i] + 1;
            }
            return requests;
        }

        // Behind the last bag comes the empty one.
        int bagBehind(int i, int mask) {
            int next = many[i] || mask == 0 ? mask + 1 : mask << 1;
            return next < 1 << size[i] ? next : 0;
        }
    }

    /** Sets and rules in the order in which they begin, with their duties in the order in which they were told. */
    private static final class Nodes {
        int count;
        final Names names = new Names(NODES_MOST);
        final int[] sort = new int[NODES_MOST];
        final int[] way = new int[NODES_MOST];
        final int[] around = new int[NODES_MOST];
        final int[] expression = new int[NODES_MOST];
        final int[] ownDuties = new int[NODES_MOST];

        // The first child of a set is the node behind it; next leads from child to child.
        final int[] children = new int[NODES_MOST];
        final int[] next = new int[NODES_MOST];
        private final int[] lastChild = new int[NODES_MOST];

        int duties;
        final int[] dutyNumber = new int[DUTIES_MOST];
        final int[] dutyOwner = new int[DUTIES_MOST];
        final int[] dutyDecision = new int[DUTIES_MOST];

        void addTo(int setAround, int sortOfIt) {
            int i = count;
            count++;
            sort[i] = sortOfIt;
            way[i] = NONE;
            around[i] = setAround;
            expression[i] = NONE;
            ownDuties[i] = 0;
            children[i] = 0;
            next[i] = NONE;
            names.lengths[i] = 0;
            if (setAround != NONE) {
                addChild(setAround, i);
            }
        }

        private void addChild(int set, int child) {
            if (children[set] > 0) {
                next[lastChild[set]] = child;
            }
            lastChild[set] = child;
            children[set]++;
        }

        void addDuty(int owner, int decision, int number) {
            dutyNumber[duties] = number;
            dutyOwner[duties] = owner;
            dutyDecision[duties] = decision;
            duties++;
            ownDuties[owner]++;
        }
    }

    /** The parts of all expressions of a text; each one's kind is the word or sign that it is told by. */
    private static final class Parts {
        int count;
        final int[] kind = new int[PARTS_MOST];
        final int[] attribute = new int[PARTS_MOST];
        // Of a test its number, the mask of its list, or its other attribute.
        final int[] number = new int[PARTS_MOST];

        // What a not, or, and joins: how many, the first of them, and from each the next.
        final int[] joined = new int[PARTS_MOST];
        final int[] first = new int[PARTS_MOST];
        final int[] next = new int[PARTS_MOST];

        void add(int kindOfIt) {
            kind[count] = kindOfIt;
            attribute[count] = 0;
            number[count] = 0;
            joined[count] = 0;
            first[count] = NONE;
            next[count] = NONE;
            count++;
        }

        boolean isJoint(int part) {
            return kind[part] == Word.OR || kind[part] == Word.AND;
        }
    }

    private static final class Text {
        boolean present;
        boolean judged;
        final Attributes attributes = new Attributes();
        final Nodes nodes = new Nodes();
        final Parts parts = new Parts();
        final Verdict verdict = new Verdict();

        void clear() {
            present = false;
            judged = false;
            attributes.count = 0;
            nodes.count = 0;
            nodes.duties = 0;
            parts.count = 0;
        }
    }

    /** Reads the tape into a text of its own, which is given away only when there was no fault. */
    private static final class Reader {
        final Tape tape = new Tape();
        int kind;
        int place;

        private Text fresh = new Text();
        private int at;
        private int openSet;
        private int openSets;

        // Reads what stands before the policy.
        void begin() {
            tape.cutIntoTokens();
            tape.length = 0;
            kind = 0;
            place = 0;
            at = 0;
            openSet = NONE;
            openSets = 0;
            fresh.clear();
            readAttributes();
        }

        void readPolicy() {
            if (isFine()) {
                readSetHead();
            }
            for (int left = tape.tokens; left > 0 && isFine() && openSet != NONE; left--) {
                switch (token()) {
                    case Word.SET:
                        readSetHead();
                        break;
                    case Word.PERMIT:
                    case Word.DENY:
                        readRule();
                        break;
                    case Word.DUTY:
                        readDuty();
                        break;
                    case Word.CLOSE_CURLY:
                        readSetEnd();
                        break;
                    default:
                        refuse(MISPLACED);
                        break;
                }
            }
            if (isFine() && token() != Word.END) {
                refuse(MISPLACED);
            }
        }

        Text exchange(Text old) {
            Text full = fresh;
            full.present = true;
            fresh = old;
            return full;
        }

        private boolean isFine() {
            return kind == 0;
        }

        private int token() {
            return tape.kinds[at];
        }

        private int tokenValue() {
            return tape.values[at];
        }

        private void step() {
            if (at < tape.tokens - 1) {
                at++;
            }
        }

        private boolean skip(int word) {
            if (token() != word) {
                return false;
            }
            step();
            return true;
        }

        private void require(int word) {
            if (token() == word) {
                step();
            } else {
                refuse(MISPLACED);
            }
        }

        private void refuse(int why) {
            if (kind == 0) {
                kind = tape.kinds[at] == Word.BAD ? BAD_TOKEN : why;
                place = tape.places[at];
            }
        }

        // One round more than there may be attributes: the last one refuses.
        private void readAttributes() {
            for (int i = 0; i <= ATTRIBUTES_MOST && isFine() && token() == Word.ATTR; i++) {
                readAttribute();
            }
        }

        private void readAttribute() {
            Attributes attributes = fresh.attributes;
            int i = attributes.count;
            if (i >= ATTRIBUTES_MOST) {
                refuse(TOO_MUCH);
                return;
            }
            step();
            if (token() != Word.NAME) {
                refuse(MISPLACED);
                return;
            }
            if (attributes.names.find(i, tape.bytes, tape.places[at], tokenValue()) != NONE) {
                refuse(BAD_NAME);
                return;
            }
            attributes.names.put(i, tape.bytes, tape.places[at], tokenValue());
            step();
            if (token() != Word.NUMBER) {
                refuse(MISPLACED);
                return;
            }
            if (tokenValue() < 1 || tokenValue() > SIZE_MOST) {
                refuse(BAD_VALUE);
                return;
            }
            attributes.size[i] = tokenValue();
            step();
            attributes.many[i] = skip(Word.MANY);
            attributes.must[i] = skip(Word.MUST);
            attributes.bag[i] = 0;
            attributes.count++;
            require(Word.SEMICOLON);
        }

        private void readSetHead() {
            Nodes nodes = fresh.nodes;
            if (token() != Word.SET) {
                refuse(MISPLACED);
                return;
            }
            int set = addNode(SET);
            if (set == NONE) {
                return;
            }
            step();
            if (!readName(set)) {
                refuse(MISPLACED);
                return;
            }
            int way = token() - Word.DENIES;
            if (way < 0 || way >= WAYS) {
                refuse(MISPLACED);
                return;
            }
            nodes.way[set] = way;
            step();
            if (skip(Word.FOR)) {
                nodes.expression[set] = readJoined(Word.OR, openSets);
            }
            if (isFine()) {
                openCurly(set);
            }
        }

        private void readSetEnd() {
            step();
            openSet = fresh.nodes.around[openSet];
            openSets--;
        }

        private void openCurly(int set) {
            if (token() != Word.OPEN_CURLY) {
                refuse(MISPLACED);
            } else if (openSets >= DEPTH_MOST) {
                refuse(TOO_MUCH);
            } else {
                step();
                openSet = set;
                openSets++;
            }
        }

        private void readRule() {
            int sort = token() == Word.PERMIT ? PERMIT_RULE : DENY_RULE;
            int rule = addNode(sort);
            if (rule == NONE) {
                return;
            }
            step();
            readName(rule);
            if (skip(Word.FOR)) {
                fresh.nodes.expression[rule] = readJoined(Word.OR, openSets);
            }
            if (isFine() && token() == Word.WITH) {
                readRuleDuties(rule, sort == PERMIT_RULE ? PERMIT : DENY);
            }
            if (isFine()) {
                require(Word.SEMICOLON);
            }
        }

        // One round more than there may be duties: the last one refuses.
        private void readRuleDuties(int rule, int decision) {
            for (int i = 0; i <= DUTIES_MOST; i++) {
                step();
                readDutyNumber(rule, decision);
                if (!isFine() || token() != Word.COMMA) {
                    return;
                }
            }
        }

        private void readDuty() {
            step();
            if (token() != Word.PERMIT && token() != Word.DENY) {
                refuse(MISPLACED);
                return;
            }
            int decision = token() == Word.PERMIT ? PERMIT : DENY;
            step();
            readDutyNumber(openSet, decision);
            if (isFine()) {
                require(Word.SEMICOLON);
            }
        }

        private void readDutyNumber(int owner, int decision) {
            if (token() != Word.NUMBER) {
                refuse(MISPLACED);
            } else if (fresh.nodes.duties >= DUTIES_MOST) {
                refuse(TOO_MUCH);
            } else {
                fresh.nodes.addDuty(owner, decision, tokenValue());
                step();
            }
        }

        private int addNode(int sort) {
            Nodes nodes = fresh.nodes;
            if (nodes.count >= NODES_MOST) {
                refuse(TOO_MUCH);
                return NONE;
            }
            nodes.addTo(openSet, sort);
            return nodes.count - 1;
        }

        private boolean readName(int node) {
            if (token() != Word.NAME) {
                return false;
            }
            fresh.nodes.names.put(node, tape.bytes, tape.places[at], tokenValue());
            step();
            return true;
        }

        private int addPart(int kindOfIt) {
            Parts parts = fresh.parts;
            if (parts.count >= PARTS_MOST) {
                refuse(TOO_MUCH);
                return NONE;
            }
            parts.add(kindOfIt);
            return parts.count - 1;
        }

        // An or joins what is joined by and, an and joins parts.
        private int readJoined(int word, int depth) {
            int first = word == Word.OR ? readJoined(Word.AND, depth) : readPart(depth);
            if (!isFine() || token() != word) {
                return first;
            }
            int joint = addPart(word);
            if (joint == NONE) {
                return NONE;
            }
            Parts parts = fresh.parts;
            parts.first[joint] = first;
            parts.joined[joint] = 1;
            int last = first;
            for (int left = PARTS_MOST; left > 0 && token() == word; left--) {
                step();
                int part = word == Word.OR ? readJoined(Word.AND, depth) : readPart(depth);
                if (!isFine()) {
                    return NONE;
                }
                parts.next[last] = part;
                parts.joined[joint]++;
                last = part;
            }
            return joint;
        }

        private int readPart(int depth) {
            switch (token()) {
                case Word.NOT:
                    return readNot(depth);
                case Word.OPEN:
                    return readBracket(depth);
                case Word.TRUE:
                case Word.FALSE:
                case Word.ERROR:
                    int constant = addPart(token());
                    step();
                    return constant;
                case Word.NAME:
                    return readTest();
                default:
                    refuse(MISPLACED);
                    return NONE;
            }
        }

        private int readNot(int depth) {
            if (depth >= DEPTH_MOST) {
                refuse(TOO_MUCH);
                return NONE;
            }
            int not = addPart(Word.NOT);
            if (not == NONE) {
                return NONE;
            }
            step();
            fresh.parts.first[not] = readPart(depth + 1);
            fresh.parts.joined[not] = 1;
            return not;
        }

        private int readBracket(int depth) {
            if (depth >= DEPTH_MOST) {
                refuse(TOO_MUCH);
                return NONE;
            }
            step();
            int inner = readJoined(Word.OR, depth + 1);
            if (isFine()) {
                require(Word.CLOSE);
            }
            return inner;
        }

        private int readTest() {
            int attribute = attributeHere();
            int test = attribute == NONE ? NONE : addPart(Word.NAME);
            if (test == NONE) {
                return NONE;
            }
            step();
            Parts parts = fresh.parts;
            parts.kind[test] = token();
            parts.attribute[test] = attribute;
            switch (token()) {
                case Word.HAS:
                case Word.IS:
                    parts.number[test] = readNumber(fresh.attributes.size[attribute]);
                    break;
                case Word.IN:
                case Word.ONLY:
                    parts.number[test] = readList(fresh.attributes.size[attribute]);
                    break;
                case Word.LESS:
                case Word.EQUAL:
                case Word.MORE:
                    parts.number[test] = readNumber(NUMBERS);
                    break;
                case Word.MEETS:
                    step();
                    parts.number[test] = attributeHere();
                    step();
                    break;
                case Word.NONE:
                    step();
                    break;
                default:
                    refuse(MISPLACED);
                    break;
            }
            return test;
        }

        private int readNumber(int below) {
            step();
            int number = tokenValue();
            if (token() != Word.NUMBER) {
                refuse(MISPLACED);
            } else if (number >= below) {
                refuse(BAD_VALUE);
            } else {
                step();
            }
            return number;
        }

        // Does not step on: a part that is one too many is refused at its name.
        private int attributeHere() {
            int found = NONE;
            if (token() != Word.NAME) {
                refuse(MISPLACED);
            } else {
                found = fresh.attributes.names.find(fresh.attributes.count, tape.bytes, tape.places[at], tokenValue());
                if (found == NONE) {
                    refuse(BAD_NAME);
                }
            }
            return found;
        }

        // No value comes twice, so the rounds are no more than the values.
        private int readList(int below) {
            step();
            if (token() != Word.OPEN_CURLY) {
                refuse(MISPLACED);
                return 0;
            }
            int mask = 0;
            for (int i = 0; i <= SIZE_MOST; i++) {
                step();
                if (token() != Word.NUMBER) {
                    refuse(MISPLACED);
                    return 0;
                }
                int value = tokenValue();
                if (value >= below || (mask >> value & 1) != 0) {
                    refuse(BAD_VALUE);
                    return 0;
                }
                mask |= 1 << value;
                step();
                if (token() != Word.COMMA) {
                    break;
                }
            }
            if (token() != Word.CLOSE_CURLY) {
                refuse(MISPLACED);
            }
            step();
            return mask;
        }
    }

    /** What the nodes of a text decide for a request. */
    private static final class Verdict {
        final int[] truths = new int[NODES_MOST];
        final int[] decisions = new int[NODES_MOST];
        // The child by which a set of way first or one decides; NONE of other ways.
        private final int[] chosen = new int[NODES_MOST];

        final int[] owed = new int[DUTIES_MOST];
        int owedCount;

        // Children come behind their set, so from the last node on all children are judged before it.
        void judge(Text text, int[] bags, int lowest) {
            Nodes nodes = text.nodes;
            for (int i = nodes.count - 1; i >= Math.max(0, lowest); i--) {
                int expression = nodes.expression[i];
                truths[i] = expression == NONE ? TRUE : truthOf(text, bags, expression, 0);
                chosen[i] = NONE;
                int sure = truths[i] == FALSE ? NEITHER : decisionIfTrue(nodes, i);
                boolean weakened = truths[i] == ERROR && (sure == PERMIT || sure == DENY);
                decisions[i] = weakened ? sure + MAYBE : sure;
            }
        }

        private int decisionIfTrue(Nodes nodes, int i) {
            switch (nodes.sort[i]) {
                case PERMIT_RULE:
                    return PERMIT;
                case DENY_RULE:
                    return DENY;
                default:
                    return combined(nodes, i);
            }
        }

        private int combined(Nodes nodes, int set) {
            if (nodes.way[set] == FIRST) {
                return byFirst(nodes, set);
            }
            if (nodes.way[set] == ONE) {
                return byOne(nodes, set);
            }
            int seen = 0;
            int child = set + 1;
            for (int left = nodes.children[set]; left > 0 && child != NONE; left--) {
                seen |= 1 << decisions[child];
                child = nodes.next[child];
            }
            switch (nodes.way[set]) {
                case DENIES:
                    return overridden(seen, DENY, PERMIT);
                case PERMITS:
                    return overridden(seen, PERMIT, DENY);
                case ELSE_DENY:
                    return has(seen, PERMIT) ? PERMIT : DENY;
                default:
                    return has(seen, DENY) ? DENY : PERMIT;
            }
        }

        private static boolean has(int seen, int decision) {
            return (seen >> decision & 1) != 0;
        }

        private static int overridden(int seen, int strong, int weak) {
            if (has(seen, strong)) {
                return strong;
            }
            boolean strongMaybe = has(seen, strong + MAYBE);
            boolean weakMaybe = has(seen, weak + MAYBE);
            if (has(seen, BOTH_MAYBE) || strongMaybe && (has(seen, weak) || weakMaybe)) {
                return BOTH_MAYBE;
            }
            if (strongMaybe) {
                return strong + MAYBE;
            }
            if (has(seen, weak)) {
                return weak;
            }
            return weakMaybe ? weak + MAYBE : NEITHER;
        }

        private int byFirst(Nodes nodes, int set) {
            int child = set + 1;
            for (int left = nodes.children[set]; left > 0 && child != NONE; left--) {
                if (decisions[child] != NEITHER) {
                    chosen[set] = child;
                    return decisions[child];
                }
                child = nodes.next[child];
            }
            return NEITHER;
        }

        private int byOne(Nodes nodes, int set) {
            int only = NONE;
            int child = set + 1;
            for (int left = nodes.children[set]; left > 0 && child != NONE; left--) {
                if (truths[child] == ERROR || truths[child] == TRUE && only != NONE) {
                    return BOTH_MAYBE;
                }
                if (truths[child] == TRUE) {
                    only = child;
                }
                child = nodes.next[child];
            }
            chosen[set] = only;
            return only == NONE ? NEITHER : decisions[only];
        }

        private static int truthOf(Text text, int[] bags, int part, int level) {
            Parts parts = text.parts;
            if (part < 0 || part >= parts.count || level >= LEVELS_MOST) {
                return ERROR;
            }
            switch (parts.kind[part]) {
                case Word.TRUE:
                    return TRUE;
                case Word.FALSE:
                    return FALSE;
                case Word.ERROR:
                    return ERROR;
                case Word.NOT:
                    int inner = truthOf(text, bags, parts.first[part], level + 1);
                    return inner == ERROR ? ERROR : inner == TRUE ? FALSE : TRUE;
                case Word.OR:
                    return truthOfJoint(text, bags, part, TRUE, level);
                case Word.AND:
                    return truthOfJoint(text, bags, part, FALSE, level);
                default:
                    return truthOfTest(text.attributes, bags, parts, part);
            }
        }

        // One TRUE settles an or, one FALSE an and, whatever the others are.
        private static int truthOfJoint(Text text, int[] bags, int joint, int settling, int level) {
            Parts parts = text.parts;
            int answer = settling == TRUE ? FALSE : TRUE;
            int part = parts.first[joint];
            for (int left = parts.joined[joint]; left > 0 && part != NONE; left--) {
                int truth = truthOf(text, bags, part, level + 1);
                if (truth == settling) {
                    return settling;
                }
                if (truth == ERROR) {
                    answer = ERROR;
                }
                part = parts.next[part];
            }
            return answer;
        }

        private static int truthOfTest(Attributes attributes, int[] bags, Parts parts, int test) {
            int attribute = parts.attribute[test];
            int number = parts.number[test];
            int bag = bags[attribute];
            boolean missing = bag == 0 && attributes.must[attribute];
            switch (parts.kind[test]) {
                case Word.HAS:
                    return missing ? ERROR : truthIf((bag >> number & 1) != 0);
                case Word.IN:
                    return missing ? ERROR : truthIf((bag & number) != 0);
                case Word.ONLY:
                    return missing ? ERROR : truthIf((bag & ~number) == 0);
                case Word.MEETS:
                    boolean otherMissing = bags[number] == 0 && attributes.must[number];
                    return missing || otherMissing ? ERROR : truthIf((bag & bags[number]) != 0);
                case Word.LESS:
                    return truthIf(Integer.bitCount(bag) < number);
                case Word.EQUAL:
                    return truthIf(Integer.bitCount(bag) == number);
                case Word.MORE:
                    return truthIf(Integer.bitCount(bag) > number);
                case Word.IS:
                    return Integer.bitCount(bag) != 1 ? ERROR : truthIf(bag == 1 << number);
                default:
                    return truthIf(bag == 0);
            }
        }

        private static int truthIf(boolean holds) {
            return holds ? TRUE : FALSE;
        }

        void collectDuties(Nodes nodes) {
            owedCount = 0;
            if (decisions[0] == PERMIT || decisions[0] == DENY) {
                collectDutiesOf(nodes, 0, 0);
            }
        }

        private void collectDutiesOf(Nodes nodes, int i, int depth) {
            if (depth > DEPTH_MOST) {
                return;
            }
            int child = i + 1;
            for (int left = nodes.children[i]; left > 0 && child != NONE; left--) {
                boolean counts = chosen[i] == NONE || chosen[i] == child;
                if (counts && decisions[child] == decisions[i]) {
                    collectDutiesOf(nodes, child, depth + 1);
                }
                child = nodes.next[child];
            }
            for (int d = 0; d < nodes.duties && owedCount < DUTIES_MOST; d++) {
                if (nodes.dutyOwner[d] == i && nodes.dutyDecision[d] == decisions[i]) {
                    owed[owedCount] = nodes.dutyNumber[d];
                    owedCount++;
                }
            }
        }
    }

    /** Goes through all requests; keeps the latest witness and comparison. */
    private static final class Survey {
        boolean compared;
        // How often text 0 decided one and text 1 another, at one * DECISIONS + other.
        final int[] tally = new int[DECISIONS * DECISIONS];
        // How many attributes the witness tells of: 0 without one, which asks for no other answer.
        int witnessed;
        final int[] witness = new int[ATTRIBUTES_MOST];

        // Not that of a text, since what was decided there stays.
        private final Verdict verdict = new Verdict();
        private final int[] request = new int[ATTRIBUTES_MOST];
        private final int[] arranged = new int[ATTRIBUTES_MOST];
        // For each attribute of text 1 the same one of text 0.
        private final int[] partner = new int[ATTRIBUTES_MOST];

        void forget() {
            compared = false;
            witnessed = 0;
        }

        boolean pair(Attributes mine, Attributes others) {
            if (mine.count != others.count) {
                return false;
            }
            for (int i = 0; i < others.count; i++) {
                int found = mine.names.findLike(mine.count, others.names, i);
                if (found == NONE || mine.size[found] != others.size[i]
                    || mine.many[found] != others.many[i] || mine.must[found] != others.must[i]) {
                    return false;
                }
                partner[i] = found;
            }
            return true;
        }

        // The texts must have been paired before.
        boolean compare(Text mine, Text other) {
            Arrays.fill(tally, 0);
            Arrays.fill(request, 0);
            compared = true;
            witnessed = 0;
            boolean alike = true;
            int requests = mine.attributes.requests();
            for (int r = 0; r < requests; r++) {
                verdict.judge(mine, request, 0);
                int decision = verdict.decisions[0];
                arrange(other.attributes.count);
                verdict.judge(other, arranged, 0);
                tally[decision * DECISIONS + verdict.decisions[0]]++;
                if (alike && decision != verdict.decisions[0]) {
                    alike = false;
                    keepWitness(mine.attributes.count);
                }
                step(mine.attributes);
            }
            return alike;
        }

        boolean search(Text text, int node, int decision) {
            Arrays.fill(request, 0);
            witnessed = 0;
            int requests = text.attributes.requests();
            for (int r = 0; r < requests; r++) {
                verdict.judge(text, request, node);
                if (verdict.decisions[node] == decision) {
                    keepWitness(text.attributes.count);
                    return true;
                }
                step(text.attributes);
            }
            return false;
        }

        private void arrange(int count) {
            for (int i = 0; i < count; i++) {
                arranged[i] = request[partner[i]];
            }
        }

        private void keepWitness(int count) {
            System.arraycopy(request, 0, witness, 0, ATTRIBUTES_MOST);
            witnessed = count;
        }

        private void step(Attributes attributes) {
            for (int i = attributes.count - 1; i >= 0; i--) {
                request[i] = attributes.bagBehind(i, request[i]);
                if (request[i] != 0) {
                    return;
                }
            }
        }
    }

    private static final class Printer {
        final int[] bytes = new int[PRINTED_MOST];
        int length;

        private final Names words = Word.spellings();
        private int openSet;
        private int openSets;

        void write(Text text) {
            length = 0;
            openSet = NONE;
            openSets = 0;
            for (int i = 0; i < text.attributes.count; i++) {
                writeAttribute(text.attributes, i);
            }
            for (int i = 0; i < text.nodes.count; i++) {
                closeSets(text.nodes, text.nodes.around[i]);
                indent();
                if (text.nodes.sort[i] == SET) {
                    writeSetHead(text, i);
                } else {
                    writeRule(text, i);
                }
            }
            closeSets(text.nodes, NONE);
        }

        private void put(int b) {
            if (length < PRINTED_MOST) {
                bytes[length] = b;
                length++;
            }
        }

        private void putName(Names names, int i) {
            for (int k = 0; k < names.lengths[i]; k++) {
                put(names.letter(i, k));
            }
        }

        private void putToken(int token) {
            if (token <= Word.LAST) {
                putName(words, token);
            } else {
                put(token);
            }
        }

        private void putBetweenBlanks(int word) {
            put(' ');
            putToken(word);
            put(' ');
        }

        private void endLine(int sign) {
            put(sign);
            put('\n');
        }

        private void putNumber(int number) {
            if (number >= 100) {
                put('0' + number / 100 % 10);
            }
            if (number >= 10) {
                put('0' + number / 10 % 10);
            }
            put('0' + number % 10);
        }

        private void indent() {
            for (int i = 0; i < openSets; i++) {
                put(' ');
                put(' ');
            }
        }

        private void closeSets(Nodes nodes, int until) {
            for (int left = DEPTH_MOST; left > 0 && openSet != until && openSet != NONE; left--) {
                openSets--;
                openSet = nodes.around[openSet];
                indent();
                endLine('}');
            }
        }

        private void writeAttribute(Attributes attributes, int i) {
            putToken(Word.ATTR);
            put(' ');
            putName(attributes.names, i);
            put(' ');
            putNumber(attributes.size[i]);
            if (attributes.many[i]) {
                put(' ');
                putToken(Word.MANY);
            }
            if (attributes.must[i]) {
                put(' ');
                putToken(Word.MUST);
            }
            endLine(';');
        }

        private void writeSetHead(Text text, int set) {
            Nodes nodes = text.nodes;
            putToken(Word.SET);
            put(' ');
            putName(nodes.names, set);
            put(' ');
            putToken(Word.DENIES + nodes.way[set]);
            if (nodes.expression[set] != NONE) {
                putBetweenBlanks(Word.FOR);
                writeExpression(text, nodes.expression[set], 0);
            }
            put(' ');
            endLine('{');
            openSet = set;
            openSets++;
            for (int d = 0; d < nodes.duties; d++) {
                if (nodes.dutyOwner[d] == set) {
                    writeDuty(nodes, d);
                }
            }
        }

        private void writeDuty(Nodes nodes, int d) {
            indent();
            putToken(Word.DUTY);
            put(' ');
            putToken(nodes.dutyDecision[d] == PERMIT ? Word.PERMIT : Word.DENY);
            put(' ');
            putNumber(nodes.dutyNumber[d]);
            endLine(';');
        }

        private void writeRule(Text text, int rule) {
            Nodes nodes = text.nodes;
            putToken(nodes.sort[rule] == PERMIT_RULE ? Word.PERMIT : Word.DENY);
            if (nodes.names.lengths[rule] > 0) {
                put(' ');
                putName(nodes.names, rule);
            }
            if (nodes.expression[rule] != NONE) {
                putBetweenBlanks(Word.FOR);
                writeExpression(text, nodes.expression[rule], 0);
            }
            writeRuleDuties(nodes, rule);
            endLine(';');
        }

        private void writeRuleDuties(Nodes nodes, int rule) {
            boolean begun = false;
            for (int d = 0; d < nodes.duties; d++) {
                if (nodes.dutyOwner[d] == rule) {
                    if (begun) {
                        put(',');
                        put(' ');
                    } else {
                        putBetweenBlanks(Word.WITH);
                    }
                    putNumber(nodes.dutyNumber[d]);
                    begun = true;
                }
            }
        }

        private void writeExpression(Text text, int part, int level) {
            Parts parts = text.parts;
            if (part < 0 || part >= parts.count || level >= LEVELS_MOST) {
                return;
            }
            switch (parts.kind[part]) {
                case Word.TRUE:
                case Word.FALSE:
                case Word.ERROR:
                    putToken(parts.kind[part]);
                    break;
                case Word.NOT:
                    putToken(Word.NOT);
                    put(' ');
                    writeJoined(text, part, parts.first[part], level);
                    break;
                case Word.OR:
                case Word.AND:
                    writeJoint(text, part, level);
                    break;
                default:
                    writeTest(text, part);
                    break;
            }
        }

        private void writeJoint(Text text, int joint, int level) {
            Parts parts = text.parts;
            int part = parts.first[joint];
            for (int i = 0; i < parts.joined[joint] && part != NONE; i++) {
                if (i > 0) {
                    put(' ');
                    putToken(parts.kind[joint]);
                    put(' ');
                }
                writeJoined(text, joint, part, level);
                part = parts.next[part];
            }
        }

        // Only an and in an or goes without brackets.
        private void writeJoined(Text text, int joint, int part, int level) {
            Parts parts = text.parts;
            if (part < 0 || part >= parts.count) {
                return;
            }
            boolean loose = parts.kind[joint] == Word.OR && parts.kind[part] == Word.AND;
            boolean bracketed = parts.isJoint(part) && !loose;
            if (bracketed) {
                put('(');
            }
            writeExpression(text, part, level + 1);
            if (bracketed) {
                put(')');
            }
        }

        private void writeTest(Text text, int test) {
            Parts parts = text.parts;
            putName(text.attributes.names, parts.attribute[test]);
            put(' ');
            putToken(parts.kind[test]);
            switch (parts.kind[test]) {
                case Word.NONE:
                    break;
                case Word.IN:
                case Word.ONLY:
                    put(' ');
                    writeList(parts.number[test]);
                    break;
                case Word.MEETS:
                    put(' ');
                    putName(text.attributes.names, parts.number[test]);
                    break;
                default:
                    put(' ');
                    putNumber(parts.number[test]);
                    break;
            }
        }

        private void writeList(int mask) {
            put('{');
            boolean begun = false;
            for (int value = 0; value < SIZE_MOST; value++) {
                if ((mask >> value & 1) != 0) {
                    if (begun) {
                        put(',');
                        put(' ');
                    }
                    putNumber(value);
                    begun = true;
                }
            }
            put('}');
        }
    }
}
