import java.io.IOException;
import java.lang.reflect.Method;
import java.lang.reflect.Modifier;
import java.nio.file.Files;
import java.nio.file.Path;
import java.util.ArrayList;
import java.util.List;
import java.util.regex.Matcher;
import java.util.regex.Pattern;
import java.util.stream.Stream;

/** README.md shows calls as they answer, tells each method of the class, and names each test that there is. */
public final class ReadmeTest {
    private static final Check CHECK = new Check();
    private static final Pattern CALL = Pattern.compile("judge\\.(\\w+)\\(([^)]*)\\);(?: *// (-?\\d+)\\b)?");

    public static void main(String[] args) throws IOException, ReflectiveOperationException {
        String readme = Files.readString(Path.of("README.md"));
        int begin = readme.indexOf("```java");
        makeCalls(readme.substring(begin, readme.indexOf("```", begin + 3)));
        checkMethods(readme);
        checkTests(readme);
        CHECK.finish("ReadmeTest");
    }

    /** Makes the calls that are shown; where a number stands behind one, it is the answer that is due. */
    private static void makeCalls(String shown) throws ReflectiveOperationException {
        PolicyJudge judge = new PolicyJudge();
        int answersTold = 0;
        for (String line : shown.split("\n")) {
            Matcher call = CALL.matcher(line);
            if (call.find()) {
                Object answer = answer(judge, call.group(1), call.group(2));
                if (call.group(3) != null) {
                    answersTold++;
                    CHECK.due(line, answer + "\n", call.group(3) + "\n");
                }
            }
        }
        CHECK.due("README.md tells answers", answersTold > 0 ? 1 : 0, 1);
    }

    private static Object answer(PolicyJudge judge, String name, String written) throws ReflectiveOperationException {
        List<Object> numbers = new ArrayList<>();
        for (String number : written.split(", *")) {
            if (!number.isEmpty()) {
                numbers.add(Integer.decode(number));
            }
        }
        for (Method m : PolicyJudge.class.getMethods()) {
            if (m.getName().equals(name) && m.getParameterCount() == numbers.size()) {
                return m.invoke(judge, numbers.toArray());
            }
        }
        return "no such method: " + name;
    }

    private static void checkMethods(String readme) {
        for (Method m : PolicyJudge.class.getDeclaredMethods()) {
            if (Modifier.isPublic(m.getModifiers())) {
                boolean told = readme.matches("(?s).*\\b" + m.getName() + "\\(.*");
                CHECK.due("README.md tells of " + m.getName(), told ? 1 : 0, 1);
            }
        }
    }

    private static void checkTests(String readme) throws IOException {
        try (Stream<Path> files = Files.list(Path.of("src/test/java"))) {
            files.map(f -> f.getFileName().toString().replace(".java", "")).filter(f -> f.endsWith("Test"))
                .forEach(f -> CHECK.due("README.md names " + f, readme.contains(f) ? 1 : 0, 1));
        }
    }
}
