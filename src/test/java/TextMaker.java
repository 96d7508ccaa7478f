import java.util.ArrayList;
import java.util.List;
import java.util.Random;

/** Makes texts by the document's grammar, with any blanks, and spoils some of them. */
final class TextMaker {
    private static final String[] WAYS = { "denies", "permits", "first", "one", "elsedeny", "elsepermit" };
    private static final String[] TOKENS = {
        "attr", "many", "must", "set", "for", "permit", "deny", "with", "duty", "or", "and", "not", "true", "false",
        "error", "has", "in", "only", "meets", "is", "none", "denies", "first", "one", "elsedeny", "(", ")", "{", "}",
        ";", ",", "<", "=", ">", "a", "B1", "zz", "0", "1", "7", "9", "12", "100", "0000", "1a", "_", "?", "\u00ff",
        "twelve_chars", "thirteenchars", "\u0000",
    };

    private final Random random;
    private List<String[]> attributes = new ArrayList<>();
    private StringBuilder text;
    private int nodesLeft;
    private int dutiesLeft;
    private int partsLeft;
    private int depthMost;

    TextMaker(Random random) {
        this.random = random;
    }

    List<String> attributes(boolean small) {
        List<String> told = new ArrayList<>();
        int count = small ? random.nextInt(4) : random.nextInt(9);
        for (int i = 0; i < count; i++) {
            String name = new String[] { "a", "B1", "c_", "role", "twelve_chars", "x", "Y", "A" }[i];
            int size = 1 + random.nextInt(small ? 3 : 8);
            String many = random.nextBoolean() ? " many" : "";
            String must = random.nextBoolean() ? " must" : "";
            told.add("attr " + name + " " + size + many + must + " ; ");
        }
        return told;
    }

    String text(List<String> told, boolean big) {
        text = new StringBuilder();
        attributes = new ArrayList<>();
        for (String one : told) {
            text.append(one);
            attributes.add(one.split(" "));
        }
        nodesLeft = big ? 99 + random.nextInt(4) : 12;
        dutiesLeft = big ? 99 + random.nextInt(4) : 12;
        partsLeft = big ? 395 + random.nextInt(10) : 40;
        depthMost = big ? 21 : 6;
        set(0, big);
        return squeezed(text.toString());
    }

    // Blanks that no two words need may go; others may become more.
    private String squeezed(String words) {
        StringBuilder all = new StringBuilder();
        for (int k = 0; k < words.length(); k++) {
            char c = words.charAt(k);
            boolean needed = k > 0 && k + 1 < words.length() && isWord(words.charAt(k - 1)) && isWord(words.charAt(k + 1));
            if (c != ' ') {
                all.append(c);
            } else if (needed || random.nextInt(4) == 0) {
                all.append(" \t\r\n".charAt(random.nextInt(4)));
            }
        }
        return all.length() > 6000 ? all.substring(0, 6000) : all.toString();
    }

    private static boolean isWord(char c) {
        return Character.isLetterOrDigit(c) || c == '_';
    }

    private void set(int depth, boolean big) {
        nodesLeft--;
        text.append("set ").append(random.nextBoolean() ? "s" : "Twelve_12345").append(' ');
        text.append(WAYS[random.nextInt(6)]).append(' ');
        condition(depth);
        text.append("{ ");
        int members = big && depth == 0 ? 300 : random.nextInt(6);
        for (int i = 0; i < members && nodesLeft > 0; i++) {
            int choice = random.nextInt(10);
            if (choice < 3 && depth + 1 < depthMost) {
                set(depth + 1, big);
            } else if (choice < 8) {
                rule(depth + 1);
            } else if (dutiesLeft > 0) {
                dutiesLeft--;
                text.append("duty ").append(side()).append(random.nextInt(1000)).append(" ; ");
            }
        }
        text.append("} ");
    }

    private String side() {
        return random.nextBoolean() ? "permit " : "deny ";
    }

    private void rule(int depth) {
        nodesLeft--;
        text.append(side());
        if (random.nextInt(3) == 0) {
            text.append("r").append(random.nextInt(100)).append(' ');
        }
        condition(depth);
        if (random.nextInt(3) == 0 && dutiesLeft > 0) {
            text.append("with ").append(random.nextInt(50)).append(' ');
            dutiesLeft--;
            for (int i = random.nextInt(4); i > 0 && dutiesLeft > 0; i--) {
                text.append(", 0").append(random.nextInt(50)).append(' ');
                dutiesLeft--;
            }
        }
        text.append("; ");
    }

    private void condition(int depth) {
        if (random.nextInt(3) != 0 && partsLeft > 0) {
            text.append("for ");
            any(depth);
        }
    }

    private void any(int depth) {
        all(depth);
        if (random.nextInt(3) == 0 && partsLeft > 0) {
            partsLeft--;
            for (int i = 1 + random.nextInt(3); i > 0 && partsLeft > 0; i--) {
                text.append("or ");
                all(depth);
            }
        }
    }

    private void all(int depth) {
        part(depth);
        if (random.nextInt(3) == 0 && partsLeft > 0) {
            partsLeft--;
            for (int i = 1 + random.nextInt(3); i > 0 && partsLeft > 0; i--) {
                text.append("and ");
                part(depth);
            }
        }
    }

    private void part(int depth) {
        int choice = random.nextInt(10);
        if (choice < 2 && depth < depthMost) {
            partsLeft--;
            text.append("not ");
            part(depth + 1);
        } else if (choice < 4 && depth < depthMost) {
            text.append("( ");
            any(depth + 1);
            text.append(") ");
        } else if (choice < 5 || attributes.isEmpty()) {
            partsLeft--;
            text.append(new String[] { "true ", "false ", "error " }[random.nextInt(3)]);
        } else {
            partsLeft--;
            test();
        }
    }

    private void test() {
        String[] attribute = attributes.get(random.nextInt(attributes.size()));
        int size = Integer.parseInt(attribute[2]);
        text.append(attribute[1]).append(' ');
        switch (random.nextInt(7)) {
            case 0:
                text.append("has ").append(random.nextInt(size));
                break;
            case 1:
                list("in", size);
                break;
            case 2:
                list("only", size);
                break;
            case 3:
                text.append("<=>".charAt(random.nextInt(3))).append(' ').append(random.nextInt(size + 1));
                break;
            case 4:
                text.append("meets ").append(attributes.get(random.nextInt(attributes.size()))[1]);
                break;
            case 5:
                text.append("is ").append(random.nextInt(size));
                break;
            default:
                text.append("none");
                break;
        }
        text.append(' ');
    }

    private void list(String word, int size) {
        List<Integer> values = new ArrayList<>();
        for (int v = 0; v < size; v++) {
            values.add(v);
        }
        java.util.Collections.shuffle(values, random);
        values = values.subList(0, 1 + random.nextInt(size));
        text.append(word).append(values.toString().replace("[", " { ").replace("]", " }").replace(", ", " , "));
    }

    private void spoilDigit(StringBuilder all, int from) {
        for (int k = from; k < all.length(); k++) {
            if (Character.isDigit(all.charAt(k))) {
                all.setCharAt(k, (char) ('0' + random.nextInt(10)));
                return;
            }
        }
    }

    /** One to two places of the text are changed: a token put in, some bytes taken out, a cut, a swap. */
    String spoilt(String words) {
        StringBuilder all = new StringBuilder(words);
        for (int i = 1 + random.nextInt(2); i > 0 && all.length() > 1; i--) {
            int at = random.nextInt(all.length());
            switch (random.nextInt(5)) {
                case 0:
                    all.insert(at, " " + TOKENS[random.nextInt(TOKENS.length)] + " ");
                    break;
                case 1:
                    all.delete(at, Math.min(all.length(), at + 1 + random.nextInt(6)));
                    break;
                case 2:
                    all.setLength(at);
                    break;
                case 3:
                    spoilDigit(all, at);
                    break;
                default:
                    all.setCharAt(at, (char) random.nextInt(256));
                    break;
            }
        }
        return all.length() > 6000 ? all.substring(0, 6000) : all.toString();
    }
}
