import java.io.IOException;
import java.lang.reflect.InvocationTargetException;
import java.lang.reflect.Method;
import java.lang.reflect.Modifier;
import java.nio.file.Files;
import java.nio.file.Path;
import java.util.List;
import java.util.regex.Matcher;
import java.util.regex.Pattern;
import java.util.stream.Collectors;
import java.util.stream.Stream;

/** README.md says how to use the class and how to run its tests, and what it says holds. */
public final class ReadmeTest {
    private static final Pattern MADE = Pattern.compile("VolumeTurner x = new VolumeTurner\\((\\d+)\\);.*");
    private static final Pattern CALL = Pattern.compile("x\\.(\\w+)\\(([^)]*)\\);\\s*(?://\\s*(?:->\\s*([-\\w]+))?.*)?");

    public static void main(String[] args) throws IOException {
        String text = Files.readString(Path.of("README.md"));
        playExample(text);
        hasAllCalls(text);
        hasAllTests(text);
        Due.is("README.md names .ci/run", text.contains("`.ci/run`"), true);
        Due.finish();
    }

    private static void playExample(String text) {
        int from = text.indexOf("```java\n");
        int to = text.indexOf("```\n", from + 8);
        Due.is("README.md has an example", from >= 0 && to > from, true);
        if (from < 0 || to < from) {
            return;
        }
        VolumeTurner x = null;
        int answers = 0;
        for (String line : text.substring(from + 8, to).split("\n")) {
            Matcher made = MADE.matcher(line);
            Matcher call = CALL.matcher(line);
            if (made.matches()) {
                x = new VolumeTurner(Integer.parseInt(made.group(1)));
            } else if (call.matches()) {
                answers += call.group(3) == null ? 0 : 1;
                compare(line, answerOf(x, call.group(1), call.group(2)), call.group(3));
            } else {
                Due.is(line, "no call of the example", "one");
            }
        }
        Due.is("the example tells answers", answers > 0, true);
    }

    /** Of a call without an arrow the answer must be none. */
    private static void compare(String line, String answer, String due) {
        Due.is(line.trim(), answer, due == null ? "nothing" : due);
    }

    private static String answerOf(VolumeTurner x, String name, String list) {
        String[] words = list.isEmpty() ? new String[0] : list.split(",\\s*");
        for (Method m : VolumeTurner.class.getMethods()) {
            if (m.getName().equals(name) && m.getParameterCount() == words.length) {
                return outcome(x, m, words);
            }
        }
        return "no such call";
    }

    private static String outcome(VolumeTurner x, Method m, String[] words) {
        Object[] values = new Object[words.length];
        for (int i = 0; i < words.length; i++) {
            boolean isFlag = m.getParameterTypes()[i] == boolean.class;
            values[i] = isFlag ? (Object) Boolean.valueOf(words[i]) : Integer.decode(words[i]);
        }
        try {
            Object answer = m.invoke(x, values);
            return answer == null ? "nothing" : answer.toString();
        } catch (InvocationTargetException e) {
            return "throws." + e.getCause().getClass().getSimpleName();
        } catch (IllegalAccessException e) {
            return e.toString();
        }
    }

    private static void hasAllCalls(String text) {
        for (Method m : VolumeTurner.class.getDeclaredMethods()) {
            if (Modifier.isPublic(m.getModifiers())) {
                boolean told = Pattern.compile("`" + m.getName() + "\\([^)`]*\\)`").matcher(text).find();
                Due.is("README.md tells of " + m.getName(), told, true);
            }
        }
    }

    private static void hasAllTests(String text) throws IOException {
        List<String> names;
        try (Stream<Path> files = Files.list(Path.of("tests"))) {
            names = files.map(f -> f.getFileName().toString()).filter(f -> f.endsWith("Test.java"))
                    .map(f -> f.substring(0, f.length() - 5)).sorted().collect(Collectors.toList());
        }
        for (String name : names) {
            Due.is("README.md tells of " + name, text.contains("`" + name + "`"), true);
        }
    }
}
