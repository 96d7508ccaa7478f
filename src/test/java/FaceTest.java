import java.lang.reflect.Constructor;
import java.lang.reflect.Field;
import java.lang.reflect.Method;
import java.lang.reflect.Modifier;
import java.util.ArrayList;
import java.util.Arrays;
import java.util.List;
import java.util.Set;
import java.util.TreeSet;

/** The public face is the document's, no more and no less. */
public final class FaceTest {
    private static final Check CHECK = new Check();

    // Behind each ! an exception that the method tells of: Index, Argument, State.
    private static final String FACE = "feed(int,int,int,int,int):int!State end(int):void!Argument load(int):int!Index"
        + " fault():int count(int,int):int!Index node(int,int,int):int!Index name(int,int,int,int):int!Index"
        + " attribute(int,int,int):int!Index bag(int,int,int):int!Index!Argument decide(int):int!Index!State"
        + " decided(int,int):int!Index truth(int,int):int!Index duty(int,int):int!Index same():int!State"
        + " differ(int,int):int!Index!State reach(int,int,int):int!Index witness(int):int!Index"
        + " print(int):int!Index!State out(int):int!Index again():int!State";

    public static void main(String[] args) {
        checkMethods();
        checkConstructor();
        checkConstants();
        CHECK.finish("FaceTest");
    }

    private static void checkMethods() {
        Set<String> got = new TreeSet<>();
        for (Method m : PolicyJudge.class.getDeclaredMethods()) {
            if (!Modifier.isPrivate(m.getModifiers())) {
                CHECK.due(m + " is public, no more", m.getModifiers(), Modifier.PUBLIC);
                got.add(brief(m));
            }
        }
        CHECK.due("methods", got + "\n", new TreeSet<>(Arrays.asList(FACE.split(" "))) + "\n");
    }

    private static String brief(Method m) {
        List<String> types = new ArrayList<>();
        for (Class<?> type : m.getParameterTypes()) {
            types.add(type.getName());
        }
        StringBuilder exceptions = new StringBuilder();
        for (Class<?> type : m.getExceptionTypes()) {
            exceptions.append('!').append(type == Check.INDEX ? "Index" : type == Check.ARGUMENT ? "Argument"
                : type == Check.STATE ? "State" : type.getName());
        }
        return m.getName() + "(" + String.join(",", types) + "):" + m.getReturnType().getName() + exceptions;
    }

    private static void checkConstructor() {
        CHECK.due("public final", PolicyJudge.class.getModifiers(), Modifier.PUBLIC | Modifier.FINAL);
        Constructor<?>[] constructors = PolicyJudge.class.getDeclaredConstructors();
        CHECK.due("constructors", constructors.length, 1);
        CHECK.due("constructor's parameters", constructors[0].getParameterCount(), 0);
        CHECK.due("constructor is public", constructors[0].getModifiers(), Modifier.PUBLIC);
    }

    private static void checkConstants() {
        Set<String> constants = new TreeSet<>();
        for (Field f : PolicyJudge.class.getDeclaredFields()) {
            if (!Modifier.isPrivate(f.getModifiers())) {
                constants.add(Modifier.toString(f.getModifiers()) + " " + f.getName());
            }
        }
        CHECK.due("constants", constants + "\n",
            "[public static final MISFIT, public static final NONE, public static final TOO_MANY]\n");
        CHECK.due("NONE", PolicyJudge.NONE, -1);
        CHECK.due("MISFIT", PolicyJudge.MISFIT, -2);
        CHECK.due("TOO_MANY", PolicyJudge.TOO_MANY, -3);
    }
}
