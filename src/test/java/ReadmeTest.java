import java.io.File;
import java.io.IOException;
import java.lang.reflect.Field;
import java.lang.reflect.Method;
import java.lang.reflect.Modifier;
import java.nio.file.Files;
import java.nio.file.Path;
import java.util.ArrayList;
import java.util.HashMap;
import java.util.List;
import java.util.Map;
import java.util.regex.Matcher;
import java.util.regex.Pattern;

/** Holds what README.md tells against the class: its example's answers, its calls, its tests. */
public final class ReadmeTest {
    private static final Pattern CALL = Pattern.compile("x\\.(\\w+)\\((.*)\\);\\s+// (-?\\d+)(:.*)?");
    private static final Pattern NUMBER = Pattern.compile("'(.)'|(-?\\d+)|PictureRing\\.(\\w+)");

    private static int wrong = 0;

    public static void main(String[] args) throws IOException, ReflectiveOperationException {
        List<String> page = Files.readAllLines(Path.of("README.md"));
        holdExample(example(page));
        holdCalls(page);
        holdTests(page);
        System.out.println(wrong == 0 ? "README.md tells it as it is" : wrong + " lines are not as it is");
        if (wrong != 0) {
            System.exit(1);
        }
    }

    private static void hold(boolean holds, String what) {
        if (!holds) {
            wrong++;
            System.out.println("README.md: " + what);
        }
    }

    /** The lines of the one block of Java. */
    private static List<String> example(List<String> page) {
        int from = page.indexOf("```java") + 1;
        hold(from > 0, "there is no example");
        int to = from;
        while (to < page.size() && !page.get(to).equals("```")) {
            to++;
        }
        return page.subList(from, to);
    }

    private static void holdExample(List<String> lines) throws ReflectiveOperationException {
        Map<String, Method> calls = calls();
        PictureRing x = new PictureRing();
        int answers = 0;
        for (String line : lines) {
            Matcher call = CALL.matcher(line);
            if (call.matches() && calls.containsKey(call.group(1))) {
                Object got = calls.get(call.group(1)).invoke(x, numbers(call.group(2)));
                hold(((Number) got).longValue() == Long.parseLong(call.group(3)), line + " answers " + got);
                answers++;
            } else {
                hold(line.isBlank() || line.startsWith("//")
                        || line.equals("PictureRing x = new PictureRing();"), "no answer: " + line);
            }
        }
        hold(answers >= 20 && answers <= 512, answers + " answers in the example");
    }

    private static Object[] numbers(String told) throws ReflectiveOperationException {
        List<Object> all = new ArrayList<>();
        Matcher number = NUMBER.matcher(told);
        while (number.find()) {
            if (number.group(1) != null) {
                all.add((int) number.group(1).charAt(0));
            } else if (number.group(2) != null) {
                all.add(Integer.parseInt(number.group(2)));
            } else {
                all.add(PictureRing.class.getField(number.group(3)).getInt(null));
            }
        }
        return all.toArray();
    }

    private static Map<String, Method> calls() {
        Map<String, Method> calls = new HashMap<>();
        for (Method method : PictureRing.class.getDeclaredMethods()) {
            if (Modifier.isPublic(method.getModifiers())) {
                calls.put(method.getName(), method);
            }
        }
        return calls;
    }

    private static void holdCalls(List<String> page) {
        String whole = String.join("\n", page);
        for (String call : calls().keySet()) {
            hold(whole.contains("`" + call + "`"), "the call " + call + " is not told");
        }
        for (Field field : PictureRing.class.getFields()) {
            hold(whole.contains("`" + field.getName() + "`"), field.getName() + " is not told");
        }
    }

    private static void holdTests(List<String> page) {
        String whole = String.join("\n", page);
        String[] files = new File("src/test/java").list();
        hold(files != null && files.length > 0, "there are no tests");
        for (String file : files == null ? new String[0] : files) {
            hold(whole.contains("`" + file.replace(".java", "") + "`"), file + " is not told");
        }
    }
}
