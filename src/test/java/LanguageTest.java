import java.io.IOException;
import java.lang.reflect.Field;
import java.lang.reflect.Method;
import java.lang.reflect.Modifier;
import java.nio.file.Files;
import java.nio.file.Path;
import java.util.ArrayList;
import java.util.HashSet;
import java.util.List;
import java.util.Map;
import java.util.Set;
import java.util.TreeMap;
import java.util.TreeSet;
import java.util.regex.Matcher;
import java.util.regex.Pattern;

/** The rules of LANGUAGE.md, as far as they can be seen in the source and in the classes; each check tells its rule. */
public final class LanguageTest {
    private static final Check CHECK = new Check();
    private static final String OUTER = "PolicyJudge";
    private static final Pattern CLASS = Pattern.compile("^(?: {4})?(?:[a-z]+ )+class (\\w+) \\{$");
    private static final Pattern METHOD =
        Pattern.compile("^(?: {4}){1,2}(?:[a-z]+ )*[\\w\\[\\]]+ (\\w+)\\(.*\\).* \\{$");
    private static final Pattern CALL = Pattern.compile("(\\.)?\\b(\\w+)\\(");
    private static final Pattern THROW = Pattern.compile(
        "^ +throw new (IllegalState|IllegalArgument|IndexOutOfBounds)Exception\\(\"[^\"]*\"\\);$");

    private static final List<String> FORBIDDEN = List.of("try", "catch", "finally", "synchronized", "assert",
        "package", "protected", "abstract", "instanceof", "lambda", "double", "float", "Object", "null");
    private static final Set<String> LIBRARY = Set.of("max", "min", "bitCount", "fill", "arraycopy", "length", "charAt");
    private static final Set<String> STATICS =
        Set.of("Math.max", "Math.min", "Integer.bitCount", "Arrays.fill", "System.arraycopy");

    // Bodies by class and name, in both cases as they stand in the source.
    private static final Map<String, List<String>> METHODS = new TreeMap<>();

    public static void main(String[] args) throws IOException {
        List<String> lines = Files.readAllLines(Path.of("src/main/java/PolicyJudge.java"));
        checkLines(lines);
        collectMethods(lines);
        checkMethods();
        checkDepths();
        checkClass(PolicyJudge.class);
        CHECK.due("rule 11: classes", PolicyJudge.class.getDeclaredClasses().length + 1 <= 12 ? 1 : 0, 1);
        for (Class<?> inside : PolicyJudge.class.getDeclaredClasses()) {
            CHECK.due("rule 1: static " + inside, Modifier.isStatic(inside.getModifiers()) ? 1 : 0, 1);
            checkClass(inside);
        }
        CHECK.finish("LanguageTest");
    }

    private static void checkLines(List<String> lines) {
        for (String line : lines) {
            String code = line.strip().startsWith("*") || line.contains("/**") ? "" : line.replaceAll("//.*", "");
            String bare = code.replaceAll("\"[^\"]*\"", "\"\"");
            for (String word : FORBIDDEN) {
                CHECK.due(word + " in: " + line, bare.matches(".*\\b" + word + "\\b.*") ? 1 : 0, 0);
            }
            CHECK.due("rule 2: " + line, bare.contains("->") || bare.contains("::") ? 1 : 0, 0);
            CHECK.due("rule 3, texts: " + line, line.chars().allMatch(c -> c >= 32 && c < 127) ? 1 : 0, 1);
            CHECK.due("rule 10, texts joined: " + line, bare.matches(".*(\" *\\+|\\+=? *\").*") ? 1 : 0, 0);
            if (code.startsWith("import ")) {
                CHECK.due("rule 4", code + "\n", "import java.util.Arrays;\n");
            }
            if (bare.matches(".*\\bthrow\\b.*")) {
                CHECK.due("rule 6: " + line, THROW.matcher(code).matches() ? 1 : 0, 1);
            }
        }
    }

    private static void collectMethods(List<String> lines) {
        String owner = OUTER;
        for (int i = 0; i < lines.size(); i++) {
            Matcher head = CLASS.matcher(lines.get(i));
            Matcher method = METHOD.matcher(lines.get(i));
            if (head.matches()) {
                owner = head.group(1);
            } else if (method.matches()) {
                String end = lines.get(i).replaceAll("\\S.*", "") + "}";
                int last = i + 1;
                while (!lines.get(last).equals(end)) {
                    last++;
                }
                METHODS.put(owner + "." + method.group(1), new ArrayList<>(lines.subList(i + 1, last)));
                i = last;
            }
        }
    }

    private static void checkMethods() {
        for (String method : METHODS.keySet()) {
            List<String> body = METHODS.get(method);
            CHECK.due("rule 11, lines of " + method, body.size() <= 60 ? 1 : 0, 1);
            String code = String.join("\n", body).replaceAll("//.*", "");
            boolean makes = code.replaceAll("throw new .*", "").matches("(?s).*(\\bnew\\b|\").*");
            CHECK.due("rule 12, objects and texts: " + method, makes && !method.equals("Word.spellings") ? 1 : 0, 0);
            Matcher called = CALL.matcher(code.replaceAll("new \\w+\\(", ""));
            while (called.find()) {
                String name = called.group(2);
                boolean known = LIBRARY.contains(name) || METHODS.keySet().stream().anyMatch(m -> m.endsWith("." + name));
                CHECK.due("rule 4: " + name + " in " + method, known ? 1 : 0, 1);
            }
            Matcher statics = Pattern.compile("\\b(Math|Integer|Long|Arrays|System|String|List)\\.\\w+").matcher(code);
            while (statics.find()) {
                CHECK.due("rule 4: " + statics.group(), STATICS.contains(statics.group()) ? 1 : 0, 1);
            }
        }
    }

    // A method that stands open is not gone into again, so recursion counts each of its methods once.
    private static void checkDepths() {
        for (String method : METHODS.keySet()) {
            if (method.startsWith(OUTER + ".")) {
                List<String> deepest = deepest(method, new HashSet<>());
                CHECK.due("rule 11, eight calls deep at most: " + deepest, deepest.size() <= 8 ? 1 : 0, 1);
            }
        }
    }

    private static List<String> deepest(String method, Set<String> open) {
        List<String> answer = new ArrayList<>();
        open.add(method);
        for (String next : callsOf(method)) {
            if (!open.contains(next)) {
                List<String> below = deepest(next, open);
                if (below.size() > answer.size()) {
                    answer = below;
                }
            }
        }
        open.remove(method);
        answer.add(0, method);
        return answer;
    }

    private static Set<String> callsOf(String method) {
        String owner = method.substring(0, method.indexOf('.'));
        Set<String> calls = new TreeSet<>();
        Matcher called = CALL.matcher(String.join("\n", METHODS.get(method)));
        while (called.find()) {
            String name = called.group(2);
            if (called.group(1) == null) {
                String own = owner + "." + name;
                calls.add(METHODS.containsKey(own) ? own : OUTER + "." + name);
            } else {
                METHODS.keySet().stream().filter(m -> m.endsWith("." + name)).forEach(calls::add);
            }
        }
        calls.retainAll(METHODS.keySet());
        return calls;
    }

    private static void checkClass(Class<?> type) {
        Set<String> face = new TreeSet<>();
        for (Method m : PolicyJudge.class.getDeclaredMethods()) {
            if (Modifier.isPublic(m.getModifiers())) {
                face.add(m.getName());
            }
        }
        for (Method m : type.getDeclaredMethods()) {
            boolean borrowed = face.contains(m.getName()) && !Modifier.isPublic(m.getModifiers());
            CHECK.due("rule 1, a name of its own: " + m, borrowed ? 1 : 0, 0);
            CHECK.due("rule 11, parameters of " + m, m.getParameterCount() <= 7 ? 1 : 0, 1);
        }
        int fields = 0;
        for (Field f : type.getDeclaredFields()) {
            if (Modifier.isStatic(f.getModifiers())) {
                CHECK.due("rule 5: " + f, Modifier.isFinal(f.getModifiers()) && f.getType() == int.class ? 1 : 0, 1);
            } else {
                fields++;
            }
        }
        CHECK.due("rule 11, fields of " + type, fields <= 20 ? 1 : 0, 1);
    }
}
