import java.io.IOException;
import java.lang.reflect.Method;
import java.lang.reflect.Modifier;
import java.nio.file.Files;
import java.nio.file.Path;
import java.util.Set;
import java.util.TreeSet;
import java.util.regex.Matcher;
import java.util.regex.Pattern;

/** The calls that README.md shows answer what it says. It is run from the project's directory. */
public final class ReadmeTest {
    private static final String NEW_OBJECT = "MajorityMap map = new MajorityMap();";
    private static final Pattern CALL = Pattern.compile("map\\.(\\w+)\\(([-0-9, ]*)\\);\\s+// (-?\\d+|true|false)( .*)?");

    private final Check check = new Check("ReadmeTest");
    private final Set<String> shown = new TreeSet<>();
    private MajorityMap map;

    public static void main(String[] args) throws IOException, ReflectiveOperationException {
        new ReadmeTest().run();
    }

    private void run() throws IOException, ReflectiveOperationException {
        boolean isCode = false;
        for (String line : Files.readAllLines(Path.of("README.md"))) {
            if (line.startsWith("```")) {
                isCode = line.equals("```java");
                map = null;
            } else if (isCode) {
                runLine(line);
            }
        }
        for (Method method : MajorityMap.class.getDeclaredMethods()) {
            if (Modifier.isPublic(method.getModifiers())) {
                check.due(method.getName() + " is shown", shown.contains(method.getName()), true);
            }
        }
        check.end();
    }

    private void runLine(String line) throws ReflectiveOperationException {
        if (line.equals(NEW_OBJECT)) {
            map = new MajorityMap();
            return;
        }
        Matcher call = CALL.matcher(line);
        boolean isCall = map != null && call.matches();
        check.due("'" + line + "' is a call with its answer", isCall, true);
        if (isCall) {
            shown.add(call.group(1));
            Object answer = answerOf(call.group(1), call.group(2));
            check.due("'" + line + "': its answer is " + answer, answer.toString().equals(call.group(3)), true);
        }
    }

    private Object answerOf(String name, String list) throws ReflectiveOperationException {
        String[] texts = list.isEmpty() ? new String[0] : list.split(", ");
        Class<?>[] types = new Class<?>[texts.length];
        Object[] numbers = new Object[texts.length];
        for (int i = 0; i < texts.length; i++) {
            types[i] = int.class;
            numbers[i] = Integer.valueOf(texts[i]);
        }
        return MajorityMap.class.getMethod(name, types).invoke(map, numbers);
    }
}
