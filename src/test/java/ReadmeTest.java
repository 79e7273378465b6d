import java.io.File;
import java.io.IOException;
import java.lang.reflect.InvocationTargetException;
import java.lang.reflect.Method;
import java.lang.reflect.Modifier;
import java.nio.file.Files;
import java.nio.file.Path;
import java.util.List;
import java.util.Map;
import java.util.Set;
import java.util.TreeMap;
import java.util.TreeSet;
import java.util.regex.Matcher;
import java.util.regex.Pattern;

/** Makes the calls of README.md, and compares their answers with those behind the calls. */
public final class ReadmeTest extends Checks {
    private static final Pattern NEW = Pattern.compile("OathDiary diary = new OathDiary\\(\\);");
    private static final Pattern TEXT =
        Pattern.compile("for \\(char code : \"([^\"\\\\]*)\"\\.toCharArray\\(\\)\\) diary\\.append\\(code\\);");
    private static final Pattern CALL =
        Pattern.compile("diary\\.(\\w+)\\((.*)\\); +// (NONE|-?\\d+(?:\\.\\d+)?|throws \\w+)(?:: \\S.*)?");

    private static final Map<String, Method> FACE = new TreeMap<>();
    private static final Set<String> CALLED = new TreeSet<>();
    private static OathDiary diary;

    private static Object argument(String word) {
        if (word.equals("true") || word.equals("false")) {
            return word.equals("true");
        }
        if (word.length() == 3 && word.charAt(0) == '\'' && word.charAt(2) == '\'') {
            return (int) word.charAt(1);
        }
        return Integer.parseInt(word);
    }

    private static Object[] arguments(String words) {
        if (words.isEmpty()) {
            return new Object[0];
        }
        String[] each = words.split(", ");
        Object[] row = new Object[each.length];
        for (int i = 0; i < each.length; i++) {
            row[i] = argument(each[i]);
        }
        return row;
    }

    private static String answer(Method method, Object[] arguments) throws IllegalAccessException {
        try {
            Object answer = method.invoke(diary, arguments);
            return answer.equals(NONE) ? "NONE" : answer.toString();
        } catch (InvocationTargetException e) {
            return "throws " + e.getCause().getClass().getSimpleName();
        }
    }

    private static void makeCall(String line) throws IllegalAccessException {
        Matcher call = CALL.matcher(line);
        due("can be read: " + line, 1, call.matches() && FACE.containsKey(call.group(1)) && diary != null ? 1 : 0);
        if (call.matches() && FACE.containsKey(call.group(1)) && diary != null) {
            CALLED.add(call.group(1));
            dueText(line, call.group(3), answer(FACE.get(call.group(1)), arguments(call.group(2))));
        }
    }

    private static void takeLine(String line) throws IllegalAccessException {
        Matcher text = TEXT.matcher(line);
        if (NEW.matcher(line).matches()) {
            diary = new OathDiary();
        } else if (text.matches() && diary != null) {
            write(diary, text.group(1));
        } else if (!line.isEmpty()) {
            makeCall(line);
        }
    }

    private static void namesEachTest(List<String> lines) {
        String[] files = new File("src/test/java").list();
        due("there are tests", 1, files != null && files.length > 0 ? 1 : 0);
        for (String file : files == null ? new String[0] : files) {
            String name = "`" + file.replace(".java", "") + "`";
            due(name + " stands in README.md", 1, String.join("\n", lines).contains(name) ? 1 : 0);
        }
    }

    public static void main(String[] args) throws IOException, IllegalAccessException {
        for (Method method : OathDiary.class.getDeclaredMethods()) {
            if (Modifier.isPublic(method.getModifiers())) {
                FACE.put(method.getName(), method);
            }
        }
        List<String> lines = Files.readAllLines(Path.of("README.md"));
        boolean inside = false;
        for (String line : lines) {
            if (line.startsWith("```")) {
                inside = line.equals("```java");
                // each piece of the page can be used by itself
                diary = null;
            } else if (inside) {
                takeLine(line);
            }
        }
        dueText("the calls in README.md", FACE.keySet().toString(), CALLED.toString());
        namesEachTest(lines);
        end();
    }
}
