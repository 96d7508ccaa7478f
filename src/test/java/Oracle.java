import java.util.ArrayList;
import java.util.Collections;
import java.util.HashMap;
import java.util.List;
import java.util.Map;
import java.util.Set;
import java.util.TreeMap;
import java.util.TreeSet;
import java.util.regex.Matcher;
import java.util.regex.Pattern;

/** The document read a second time: one text as a tree, faults as exceptions, bags as sets. Slow and plain. */
final class Oracle {
    static final class Fault extends RuntimeException {
        private static final long serialVersionUID = 1;
        final int kind;
        final int place;

        Fault(int kind, int place) {
            this.kind = kind;
            this.place = place;
        }
    }

    static final class Attribute {
        String name;
        int size;
        boolean many;
        boolean must;

        List<Integer> bags() {
            List<Integer> bags = new ArrayList<>();
            for (int mask = 0; mask < 1 << size; mask++) {
                if (many || Integer.bitCount(mask) < 2) {
                    bags.add(mask);
                }
            }
            return bags;
        }
    }

    static final class Expr {
        String kind;
        Attribute of;
        Attribute other;
        int number;
        final Set<Integer> list = new TreeSet<>();
        final List<Expr> inner = new ArrayList<>();
    }

    static final class Node {
        String word;
        String name = "";
        int way = -1;
        Node around;
        Expr expr;
        final List<Node> children = new ArrayList<>();
        final List<String> duties = new ArrayList<>();
    }

    private static final Set<String> WORDS = Set.of("attr", "many", "must", "set", "for", "permit", "deny", "with",
        "duty", "or", "and", "not", "true", "false", "error", "has", "in", "only", "meets", "is", "none", "denies",
        "permits", "first", "one", "elsedeny", "elsepermit");
    private static final List<String> WAYS = List.of("denies", "permits", "first", "one", "elsedeny", "elsepermit");
    private static final Pattern RUN = Pattern.compile("[A-Za-z0-9_]+");

    final List<Attribute> attributes = new ArrayList<>();
    final List<Node> nodes = new ArrayList<>();
    int parts;
    int duties;

    private final String text;
    private int at;
    private int depth;

    Oracle(String text) {
        this.text = text;
        while (peek().equals("attr")) {
            readAttribute();
        }
        readSet(null);
        if (!peek().isEmpty()) {
            throw fault(2);
        }
    }

    // ---- reading

    private void blanks() {
        while (at < text.length() && " \t\r\n".indexOf(text.charAt(at)) >= 0) {
            at++;
        }
    }

    /** The token that comes: empty at the end; a space before one that is bad. */
    private String peek() {
        blanks();
        if (at == text.length()) {
            return "";
        }
        if ("(){};,<=>".indexOf(text.charAt(at)) >= 0) {
            return text.substring(at, at + 1);
        }
        Matcher run = RUN.matcher(text).region(at, text.length());
        if (!run.lookingAt()) {
            return " ";
        }
        String word = run.group();
        boolean good = word.matches("[A-Za-z][A-Za-z0-9_]{0,11}|[0-9]{1,3}");
        return good ? word : " ";
    }

    private Fault fault(int kind) {
        return new Fault(peek().equals(" ") ? 1 : kind, at);
    }

    private String next() {
        String token = peek();
        at += token.length();
        return token;
    }

    private void expect(String token) {
        if (!peek().equals(token)) {
            throw fault(2);
        }
        next();
    }

    private boolean isName() {
        return peek().matches("[A-Za-z].*") && !WORDS.contains(peek());
    }

    private boolean isNumber() {
        return peek().matches("[0-9]+");
    }

    private Attribute find(String name) {
        for (Attribute a : attributes) {
            if (a.name.equals(name)) {
                return a;
            }
        }
        return null;
    }

    private void readAttribute() {
        if (attributes.size() == 8) {
            throw fault(5);
        }
        next();
        Attribute a = new Attribute();
        if (!isName()) {
            throw fault(2);
        }
        if (find(peek()) != null) {
            throw fault(3);
        }
        a.name = next();
        if (!isNumber()) {
            throw fault(2);
        }
        a.size = Integer.parseInt(peek());
        if (a.size < 1 || a.size > 8) {
            throw fault(4);
        }
        next();
        if (peek().equals("many")) {
            next();
            a.many = true;
        }
        if (peek().equals("must")) {
            next();
            a.must = true;
        }
        expect(";");
        attributes.add(a);
    }

    private Node begin(Node around) {
        if (nodes.size() == 100) {
            throw fault(5);
        }
        Node node = new Node();
        node.around = around;
        node.word = next();
        nodes.add(node);
        if (around != null) {
            around.children.add(node);
        }
        return node;
    }

    private void readSet(Node around) {
        if (!peek().equals("set")) {
            throw fault(2);
        }
        Node set = begin(around);
        if (!isName()) {
            throw fault(2);
        }
        set.name = next();
        set.way = WAYS.indexOf(peek());
        if (set.way < 0) {
            throw fault(2);
        }
        next();
        readFor(set);
        if (!peek().equals("{")) {
            throw fault(2);
        }
        deeper();
        next();
        while (!peek().equals("}")) {
            if (peek().equals("set")) {
                readSet(set);
            } else if (peek().equals("permit") || peek().equals("deny")) {
                readRule(set);
            } else if (peek().equals("duty")) {
                next();
                if (!peek().equals("permit") && !peek().equals("deny")) {
                    throw fault(2);
                }
                readDuty(set, next());
                expect(";");
            } else {
                throw fault(2);
            }
        }
        next();
        depth--;
    }

    private void deeper() {
        if (depth == 20) {
            throw fault(5);
        }
        depth++;
    }

    private void readFor(Node node) {
        if (peek().equals("for")) {
            next();
            node.expr = readAny();
        }
    }

    private void readDuty(Node node, String side) {
        if (!isNumber()) {
            throw fault(2);
        }
        if (duties == 100) {
            throw fault(5);
        }
        duties++;
        node.duties.add(side + " " + Integer.parseInt(next()));
    }

    private void readRule(Node around) {
        Node rule = begin(around);
        if (isName()) {
            rule.name = next();
        }
        readFor(rule);
        if (peek().equals("with")) {
            do {
                next();
                readDuty(rule, rule.word);
            } while (peek().equals(","));
        }
        expect(";");
    }

    private Expr part(String kind) {
        if (parts == 400) {
            throw fault(5);
        }
        parts++;
        Expr part = new Expr();
        part.kind = kind;
        return part;
    }

    private Expr readAny() {
        Expr first = readAll();
        if (!peek().equals("or")) {
            return first;
        }
        Expr or = part("or");
        or.inner.add(first);
        while (peek().equals("or")) {
            next();
            or.inner.add(readAll());
        }
        return or;
    }

    private Expr readAll() {
        Expr first = readPart();
        if (!peek().equals("and")) {
            return first;
        }
        Expr and = part("and");
        and.inner.add(first);
        while (peek().equals("and")) {
            next();
            and.inner.add(readPart());
        }
        return and;
    }

    private Expr readPart() {
        String token = peek();
        if (token.equals("true") || token.equals("false") || token.equals("error")) {
            Expr constant = part(token);
            next();
            return constant;
        }
        if (token.equals("not") || token.equals("(")) {
            deeper();
            Expr inner;
            if (token.equals("not")) {
                inner = part("not");
                next();
                inner.inner.add(readPart());
            } else {
                next();
                inner = readAny();
                expect(")");
            }
            depth--;
            return inner;
        }
        if (!isName()) {
            throw fault(2);
        }
        if (find(token) == null) {
            throw fault(3);
        }
        Expr test = part("test");
        test.of = find(next());
        readTest(test);
        return test;
    }

    private void readTest(Expr test) {
        test.kind = peek();
        switch (test.kind) {
            case "has":
            case "is":
                next();
                test.number = readValue(test.of, Set.of());
                break;
            case "<":
            case "=":
            case ">":
                next();
                if (!isNumber()) {
                    throw fault(2);
                }
                test.number = Integer.parseInt(next());
                break;
            case "in":
            case "only":
                next();
                expect("{");
                test.list.add(readValue(test.of, test.list));
                while (peek().equals(",")) {
                    next();
                    test.list.add(readValue(test.of, test.list));
                }
                expect("}");
                break;
            case "meets":
                next();
                if (!isName()) {
                    throw fault(2);
                }
                test.other = find(peek());
                if (test.other == null) {
                    throw fault(3);
                }
                next();
                break;
            case "none":
                next();
                break;
            default:
                throw fault(2);
        }
    }

    private int readValue(Attribute of, Set<Integer> taken) {
        if (!isNumber()) {
            throw fault(2);
        }
        int value = Integer.parseInt(peek());
        if (value >= of.size || taken.contains(value)) {
            throw fault(4);
        }
        next();
        return value;
    }

    // ---- judging

    static Set<Integer> bagOf(int mask) {
        Set<Integer> bag = new TreeSet<>();
        for (int v = 0; v < 8; v++) {
            if ((mask & 1 << v) != 0) {
                bag.add(v);
            }
        }
        return bag;
    }

    final class Judged {
        private final Map<String, Set<Integer>> bags;
        final Map<Node, Integer> truths = new HashMap<>();
        final Map<Node, Integer> decisions = new HashMap<>();
        final List<Integer> duties;

        Judged(Map<String, Integer> request) {
            bags = new TreeMap<>();
            request.forEach((name, mask) -> bags.put(name, bagOf(mask)));
            decide(nodes.get(0));
            duties = dutiesOf(nodes.get(0));
        }

        private int truth(Expr e) {
            switch (e.kind) {
                case "false":
                    return 0;
                case "true":
                    return 1;
                case "error":
                    return 2;
                case "not":
                    return new int[] { 1, 0, 2 }[truth(e.inner.get(0))];
                case "or":
                case "and":
                    int strong = e.kind.equals("or") ? 1 : 0;
                    List<Integer> all = new ArrayList<>();
                    e.inner.forEach(part -> all.add(truth(part)));
                    return all.contains(strong) ? strong : all.contains(2) ? 2 : 1 - strong;
                default:
                    return test(e);
            }
        }

        private int test(Expr e) {
            Set<Integer> bag = bags.get(e.of.name);
            Set<Integer> other = e.other == null ? Set.of() : bags.get(e.other.name);
            boolean missing = e.of.must && bag.isEmpty() || e.other != null && e.other.must && other.isEmpty();
            if (missing && List.of("has", "in", "only", "meets").contains(e.kind)) {
                return 2;
            }
            boolean holds;
            switch (e.kind) {
                case "has":
                    holds = bag.contains(e.number);
                    break;
                case "in":
                    holds = !Collections.disjoint(bag, e.list);
                    break;
                case "only":
                    holds = e.list.containsAll(bag);
                    break;
                case "<":
                    holds = bag.size() < e.number;
                    break;
                case "=":
                    holds = bag.size() == e.number;
                    break;
                case ">":
                    holds = bag.size() > e.number;
                    break;
                case "meets":
                    holds = !Collections.disjoint(bag, other);
                    break;
                case "is":
                    if (bag.size() != 1) {
                        return 2;
                    }
                    holds = bag.equals(Set.of(e.number));
                    break;
                default:
                    holds = bag.isEmpty();
                    break;
            }
            return holds ? 1 : 0;
        }

        private int decide(Node node) {
            int truth = node.expr == null ? 1 : truth(node.expr);
            truths.put(node, truth);
            List<Integer> below = new ArrayList<>();
            node.children.forEach(child -> below.add(decide(child)));
            int sure = node.word.equals("permit") ? 1 : node.word.equals("deny") ? 2 : combine(node, below);
            int decision = sure;
            if (truth == 0) {
                decision = 0;
            } else if (truth == 2) {
                decision = sure == 1 ? 3 : sure == 2 ? 4 : sure;
            }
            decisions.put(node, decision);
            return decision;
        }

        private int combine(Node set, List<Integer> below) {
            switch (set.way) {
                case 0:
                    return denies(below);
                case 1:
                    List<Integer> changed = new ArrayList<>();
                    below.forEach(d -> changed.add(swap(d)));
                    return swap(denies(changed));
                case 2:
                    for (int d : below) {
                        if (d != 0) {
                            return d;
                        }
                    }
                    return 0;
                case 3:
                    List<Node> sure = new ArrayList<>();
                    for (Node child : set.children) {
                        if (truths.get(child) == 2) {
                            return 5;
                        }
                        if (truths.get(child) == 1) {
                            sure.add(child);
                        }
                    }
                    return sure.size() > 1 ? 5 : sure.isEmpty() ? 0 : decisions.get(sure.get(0));
                case 4:
                    return below.contains(1) ? 1 : 2;
                default:
                    return below.contains(2) ? 2 : 1;
            }
        }

        private int swap(int d) {
            return new int[] { 0, 2, 1, 4, 3, 5 }[d];
        }

        private int denies(List<Integer> below) {
            if (below.contains(2)) {
                return 2;
            }
            if (below.contains(5) || below.contains(4) && (below.contains(1) || below.contains(3))) {
                return 5;
            }
            for (int d : new int[] { 4, 1, 3 }) {
                if (below.contains(d)) {
                    return d;
                }
            }
            return 0;
        }

        private List<Integer> dutiesOf(Node node) {
            List<Integer> all = new ArrayList<>();
            int decision = decisions.get(node);
            if (decision != 1 && decision != 2) {
                return all;
            }
            for (Node child : node.children) {
                boolean speaks = decisions.get(child) == decision;
                if (node.way == 3 && truths.get(child) != 1) {
                    speaks = false;
                }
                if (speaks) {
                    all.addAll(dutiesOf(child));
                }
                // The first one that is not NEITHER decides alone.
                if (speaks && node.way == 2) {
                    break;
                }
            }
            String side = decision == 1 ? "permit " : "deny ";
            for (String duty : node.duties) {
                if (duty.startsWith(side)) {
                    all.add(Integer.parseInt(duty.substring(side.length())));
                }
            }
            return all;
        }
    }

    // ---- requests

    /** All requests in order, as masks in the order of the attributes; null if there are more than 4096. */
    List<List<Integer>> requests() {
        List<List<Integer>> all = new ArrayList<>();
        all.add(new ArrayList<>());
        for (Attribute a : attributes) {
            List<List<Integer>> longer = new ArrayList<>();
            for (List<Integer> head : all) {
                for (int mask : a.bags()) {
                    List<Integer> one = new ArrayList<>(head);
                    one.add(mask);
                    longer.add(one);
                }
            }
            if (longer.size() > 4096) {
                return null;
            }
            all = longer;
        }
        return all;
    }

    Map<String, Integer> named(List<Integer> request) {
        Map<String, Integer> named = new HashMap<>();
        for (int i = 0; i < attributes.size(); i++) {
            named.put(attributes.get(i).name, request.get(i));
        }
        return named;
    }

    Map<String, String> shape() {
        Map<String, String> shape = new TreeMap<>();
        for (Attribute a : attributes) {
            shape.put(a.name, a.size + " " + a.many + " " + a.must);
        }
        return shape;
    }

    // ---- printing

    String print() {
        StringBuilder all = new StringBuilder();
        for (Attribute a : attributes) {
            all.append("attr ").append(a.name).append(' ').append(a.size);
            all.append(a.many ? " many" : "").append(a.must ? " must" : "").append(";\n");
        }
        print(all, nodes.get(0), "");
        return all.toString();
    }

    private void print(StringBuilder all, Node node, String blanks) {
        List<String> words = new ArrayList<>();
        words.add(node.word);
        if (!node.name.isEmpty()) {
            words.add(node.name);
        }
        if (node.way >= 0) {
            words.add(WAYS.get(node.way));
        }
        if (node.expr != null) {
            words.add("for " + print(node.expr));
        }
        if (node.way >= 0) {
            all.append(blanks).append(String.join(" ", words)).append(" {\n");
            for (String duty : node.duties) {
                all.append(blanks).append("  duty ").append(duty).append(";\n");
            }
            for (Node child : node.children) {
                print(all, child, blanks + "  ");
            }
            all.append(blanks).append("}\n");
            return;
        }
        if (!node.duties.isEmpty()) {
            words.add("with " + String.join(", ", node.duties).replace("permit ", "").replace("deny ", ""));
        }
        all.append(blanks).append(String.join(" ", words)).append(";\n");
    }

    private static String print(Expr e) {
        switch (e.kind) {
            case "true":
            case "false":
            case "error":
                return e.kind;
            case "not":
                return "not " + printIn(e, e.inner.get(0));
            case "or":
            case "and":
                List<String> inner = new ArrayList<>();
                e.inner.forEach(part -> inner.add(printIn(e, part)));
                return String.join(" " + e.kind + " ", inner);
            case "none":
                return e.of.name + " none";
            case "meets":
                return e.of.name + " meets " + e.other.name;
            case "in":
            case "only":
                return e.of.name + " " + e.kind + " " + e.list.toString().replace('[', '{').replace(']', '}');
            default:
                return e.of.name + " " + e.kind + " " + e.number;
        }
    }

    private static String printIn(Expr outer, Expr inner) {
        boolean or = inner.kind.equals("or");
        boolean and = inner.kind.equals("and") && !outer.kind.equals("or");
        return or || and ? "(" + print(inner) + ")" : print(inner);
    }
}
