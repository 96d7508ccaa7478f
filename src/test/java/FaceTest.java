import java.io.IOException;
import java.lang.reflect.Constructor;
import java.lang.reflect.Field;
import java.lang.reflect.Method;
import java.lang.reflect.Modifier;
import java.nio.file.Files;
import java.nio.file.Path;
import java.util.ArrayList;
import java.util.Arrays;
import java.util.List;
import java.util.Set;
import java.util.TreeSet;

/** The public face is the document's, no more and no less; and what of LANGUAGE.md can be seen from outside. */
public final class FaceTest {
    private static final Check CHECK = new Check();
    private static final String FACE = "feed(int,int,int,int,int):int end(int):void load(int):int fault():int"
        + " count(int,int):int node(int,int,int):int name(int,int,int,int):int attribute(int,int,int):int"
        + " bag(int,int,int):int decide(int):int decided(int,int):int truth(int,int):int duty(int,int):int same():int"
        + " differ(int,int):int reach(int,int,int):int witness(int):int print(int):int out(int):int again():int";

    public static void main(String[] args) throws IOException {
        checkFace();
        checkClassesInside();
        checkSource();
        CHECK.finish("FaceTest");
    }

    private static void checkFace() {
        Class<?> face = PolicyJudge.class;
        CHECK.due("public final", face.getModifiers(), Modifier.PUBLIC | Modifier.FINAL);
        Set<String> got = new TreeSet<>();
        for (Method m : face.getDeclaredMethods()) {
            if (!Modifier.isPrivate(m.getModifiers())) {
                List<String> types = new ArrayList<>();
                for (Class<?> type : m.getParameterTypes()) {
                    types.add(type.getName());
                }
                got.add(m.getName() + "(" + String.join(",", types) + "):" + m.getReturnType().getName());
            }
        }
        CHECK.due("methods", got + "\n", new TreeSet<>(Arrays.asList(FACE.split(" "))) + "\n");
        Constructor<?>[] constructors = face.getDeclaredConstructors();
        CHECK.due("constructors", constructors.length, 1);
        CHECK.due("constructor's parameters", constructors[0].getParameterCount(), 0);
        CHECK.due("constructor is public", constructors[0].getModifiers(), Modifier.PUBLIC);
        Set<String> constants = new TreeSet<>();
        for (Field f : face.getDeclaredFields()) {
            if (!Modifier.isPrivate(f.getModifiers())) {
                constants.add(Modifier.toString(f.getModifiers()) + " " + f.getName());
            }
        }
        CHECK.due("constants", constants + "\n",
            "[public static final MISFIT, public static final NONE, public static final TOO_MANY]\n");
    }

    private static void checkClassesInside() {
        Set<String> publicNames = new TreeSet<>();
        for (String method : FACE.split(" ")) {
            publicNames.add(method.substring(0, method.indexOf('(')));
        }
        Class<?>[] inside = PolicyJudge.class.getDeclaredClasses();
        CHECK.due("classes", inside.length + 1 <= 12 ? 1 : 0, 1);
        for (Class<?> c : inside) {
            CHECK.due(c + " is static", Modifier.isStatic(c.getModifiers()) ? 1 : 0, 1);
            for (Method m : c.getDeclaredMethods()) {
                CHECK.due(m + " has a name of its own", publicNames.contains(m.getName()) ? 0 : 1, 1);
                CHECK.due(m + " has few parameters", m.getParameterCount() <= 7 ? 1 : 0, 1);
            }
            for (Field f : c.getDeclaredFields()) {
                boolean kept = Modifier.isStatic(f.getModifiers()) && !Modifier.isFinal(f.getModifiers());
                CHECK.due(f + " is no static state", kept ? 1 : 0, 0);
            }
        }
    }

    private static void checkSource() throws IOException {
        List<String> lines = Files.readAllLines(Path.of("src/main/java/PolicyJudge.java"));
        for (String line : lines) {
            for (String word : List.of("catch", "finally", "->", "::", "synchronized", "assert", "package ", "Exact(")) {
                CHECK.due(word + " in: " + line, line.contains(word) ? 1 : 0, 0);
            }
            if (line.startsWith("import ")) {
                CHECK.due("import", line + "\n", "import java.util.Arrays;\n");
            }
        }
        int begin = 0;
        for (int i = 0; i < lines.size(); i++) {
            String line = lines.get(i);
            String indent = line.substring(0, line.length() - line.stripLeading().length());
            boolean member = indent.length() == 4 || indent.length() == 8;
            if (member && line.endsWith("{") && line.contains("(")) {
                begin = i;
            }
            if (member && line.strip().equals("}")) {
                CHECK.due("lines to " + (i + 1), i - begin <= 60 || line.equals("    }") ? 1 : 0, 1);
            }
        }
    }
}
