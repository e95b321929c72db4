import java.io.File;
import java.lang.reflect.InvocationTargetException;
import java.lang.reflect.Method;
import java.lang.reflect.Modifier;
import java.nio.file.Files;
import java.nio.file.Path;
import java.util.HashMap;
import java.util.Map;
import java.util.Set;
import java.util.TreeSet;
import java.util.regex.Matcher;
import java.util.regex.Pattern;

/**
 * README.md as a user would try it: every line of its java blocks is made on one object, in order, and
 * has to answer what stands behind it. A line that is not of these forms is wrong too, so that no call
 * is shown without an answer that was looked at:
 *   CurveFalls x = new CurveFalls();
 *   [int name =] x.call(numbers, names, true, false, CurveFalls.NONE);   // answer[: words]
 */
public final class ReadmeTest {
    private static final String MAKING = "CurveFalls x = new CurveFalls();";
    private static final Pattern CALL =
        Pattern.compile("(?:int (\\w+) = )?x\\.(\\w+)\\(([^()]*)\\);\\s*// ([-\\w]+)(?:: .*)?");

    private static int wrong = 0;
    private static int checked = 0;
    private static CurveFalls x = null;
    private static final Map<String, Object> NAMES = new HashMap<>();
    private static final Set<String> SHOWN = new TreeSet<>();

    public static void main(String[] args) throws Exception {
        String text = Files.readString(Path.of("README.md"));
        tryLines(text);
        checkAllShown();
        checkTestsNamed(text);
        System.out.println(checked + " answers of README.md looked at, " + wrong + " wrong");
        if (wrong != 0 || checked == 0) {
            System.exit(1);
        }
    }

    private static void broken(String what) {
        wrong++;
        System.out.println(what);
    }

    private static void tryLines(String text) throws Exception {
        boolean java = false;
        for (String line : text.split("\n")) {
            if (line.startsWith("```")) {
                java = line.equals("```java");
            } else if (java && line.equals(MAKING)) {
                x = new CurveFalls();
            } else if (java) {
                tryLine(line);
            }
        }
    }

    private static void tryLine(String line) throws Exception {
        Matcher parts = CALL.matcher(line);
        if (x == null || !parts.matches()) {
            broken("not a call with its answer: " + line);
            return;
        }
        Object got = answer(parts.group(2), parts.group(3));
        checked++;
        if (!String.valueOf(got).equals(parts.group(4))) {
            broken(line + " answered " + got);
        }
        if (parts.group(1) != null) {
            NAMES.put(parts.group(1), got);
        }
    }

    /** What the call answers, or the plain name of what it throws. */
    private static Object answer(String name, String arguments) throws Exception {
        String[] words = arguments.isEmpty() ? new String[0] : arguments.split(", ");
        for (Method method : CurveFalls.class.getMethods()) {
            if (method.getName().equals(name) && method.getParameterCount() == words.length) {
                SHOWN.add(name);
                Object[] values = new Object[words.length];
                for (int i = 0; i < words.length; i++) {
                    values[i] = value(words[i]);
                }
                try {
                    return method.invoke(x, values);
                } catch (InvocationTargetException thrown) {
                    return thrown.getCause().getClass().getSimpleName();
                }
            }
        }
        return "no such call";
    }

    private static Object value(String word) {
        if (word.equals("true") || word.equals("false")) {
            return Boolean.valueOf(word);
        }
        if (word.equals("CurveFalls.NONE")) {
            return CurveFalls.NONE;
        }
        return NAMES.containsKey(word) ? NAMES.get(word) : Integer.valueOf(word);
    }

    private static void checkAllShown() {
        for (Method method : CurveFalls.class.getDeclaredMethods()) {
            if (Modifier.isPublic(method.getModifiers()) && !SHOWN.contains(method.getName())) {
                broken("README.md does not show " + method.getName() + "()");
            }
        }
    }

    private static void checkTestsNamed(String text) {
        String[] files = new File("src/test/java").list();
        for (String file : files == null ? new String[0] : files) {
            String name = file.replace(".java", "");
            if (!text.contains("`" + name + "`")) {
                broken("README.md does not name " + name);
            }
        }
    }
}
