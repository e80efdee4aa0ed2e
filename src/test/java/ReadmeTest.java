import java.io.IOException;
import java.lang.reflect.Method;
import java.nio.file.Files;
import java.nio.file.Path;
import java.util.ArrayList;
import java.util.HashMap;
import java.util.HashSet;
import java.util.List;
import java.util.Map;
import java.util.Set;
import java.util.regex.Matcher;
import java.util.regex.Pattern;

/**
 * Makes the calls that README.md shows and holds each answer against the one beside it. It takes the
 * lines from the file itself, so that the two can't drift apart, and fails on a line that it can't read.
 */
public final class ReadmeTest {
    private static final Pattern NEW = Pattern.compile("ModuleTree (\\w+) = new ModuleTree\\((-?\\d+)\\);\\s+// .+");
    private static final Pattern CALL = Pattern.compile("(\\w+)\\.(\\w+)\\((.*?)\\);\\s+// ([^:]+)(:.*)?");
    private static final Checks CHECKS = new Checks();
    private static final Map<String, ModuleTree> OBJECTS = new HashMap<>();
    private static final Set<String> SHOWN = new HashSet<>();

    public static void main(String[] args) throws IOException, ReflectiveOperationException {
        for (String line : codeLines(Path.of("README.md"))) {
            follow(line);
        }
        for (Method method : ModuleTree.class.getMethods()) {
            if (method.getDeclaringClass() == ModuleTree.class) {
                CHECKS.due("README.md shows " + method.getName(), SHOWN.contains(method.getName()), true);
            }
        }
        CHECKS.end();
    }

    private static List<String> codeLines(Path readme) throws IOException {
        List<String> code = new ArrayList<>();
        boolean within = false;
        for (String line : Files.readAllLines(readme)) {
            if (line.startsWith("```")) {
                within = !within;
            } else if (within && !line.isBlank()) {
                code.add(line);
            }
        }
        return code;
    }

    private static void follow(String line) throws ReflectiveOperationException {
        Matcher made = NEW.matcher(line);
        Matcher call = CALL.matcher(line);
        if (made.matches()) {
            OBJECTS.put(made.group(1), new ModuleTree(Integer.parseInt(made.group(2))));
        } else if (call.matches() && OBJECTS.containsKey(call.group(1))) {
            SHOWN.add(call.group(2));
            answerIsAsShown(line, OBJECTS.get(call.group(1)), call);
        } else {
            CHECKS.due("README.md, a line that can't be read: " + line, false, true);
        }
    }

    private static void answerIsAsShown(String line, ModuleTree x, Matcher call) throws ReflectiveOperationException {
        List<Object> arguments = new ArrayList<>();
        List<Class<?>> types = new ArrayList<>();
        for (String word : call.group(3).split(", ")) {
            if (!word.isEmpty()) {
                Object value = valueOf(word);
                arguments.add(value);
                types.add(value instanceof Boolean ? boolean.class : int.class);
            }
        }
        Method method = ModuleTree.class.getMethod(call.group(2), types.toArray(new Class<?>[0]));
        Object got = method.invoke(x, arguments.toArray());
        // Behind a call without an answer there are words alone.
        if (method.getReturnType() != void.class) {
            boolean asShown = got.equals(valueOf(call.group(4)));
            CHECKS.due("README.md: " + line + " (the answer was " + got + ")", asShown, true);
        }
    }

    private static Object valueOf(String word) throws ReflectiveOperationException {
        if (word.equals("true") || word.equals("false")) {
            return Boolean.valueOf(word);
        }
        if (word.startsWith("ModuleTree.")) {
            return ModuleTree.class.getField(word.substring("ModuleTree.".length())).get(null);
        }
        return Integer.valueOf(word);
    }
}
