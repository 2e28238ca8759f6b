import java.io.File;
import java.io.IOException;
import java.lang.reflect.Method;
import java.lang.reflect.Modifier;
import java.nio.file.Files;
import java.nio.file.Path;
import java.util.HashMap;
import java.util.Map;
import java.util.regex.Matcher;
import java.util.regex.Pattern;

/** README.md: its example answers as it tells, and it leaves out no call and no test. It runs in the project's folder. */
public final class ReadmeTest {
    private static final Due DUE = new Due("ReadmeTest");
    private static final Path README = Path.of("README.md");
    private static final int FEWEST_LINES = 15;
    /** A line of the example: perhaps a name that keeps the answer, the call, its arguments, the answer. */
    private static final Pattern LINE =
        Pattern.compile("(?:int (\\w+) = )?house\\.(\\w+)\\(([^)]*)\\);\\s*// (-?\\d+|PipeHouse\\.\\w+): .*");

    private final PipeHouse house = new PipeHouse();
    private final Map<String, Integer> names = new HashMap<>();

    public static void main(String[] args) throws IOException, ReflectiveOperationException {
        String text = Files.readString(README);
        new ReadmeTest().runTheExample(text);
        tellsOfEachCall(text);
        tellsOfEachTest(text);
        DUE.end();
    }

    private void runTheExample(String text) throws ReflectiveOperationException {
        Matcher block = Pattern.compile("(?s)```java\\n(.*?)```").matcher(text);
        DUE.isTrue("there is an example", block.find());
        int lines = 0;
        for (String line : block.group(1).split("\n")) {
            if (line.equals("PipeHouse house = new PipeHouse();")) {
                continue;
            }
            Matcher m = LINE.matcher(line);
            boolean understood = m.matches();
            DUE.isTrue("a call with its answer: " + line, understood);
            if (understood) {
                runLine(line, m);
                lines++;
            }
        }
        DUE.isTrue("the example has its lines", lines >= FEWEST_LINES);
    }

    private void runLine(String line, Matcher m) throws ReflectiveOperationException {
        int got = call(m.group(2), m.group(3).split(", *"));
        DUE.is(line, got, dueIn(m.group(4)));
        if (m.group(1) != null) {
            names.put(m.group(1), got);
        }
    }

    private int call(String name, String[] words) throws ReflectiveOperationException {
        for (Method method : PipeHouse.class.getMethods()) {
            if (method.getName().equals(name)) {
                int taken = method.getParameterCount();
                Object[] values = new Object[taken];
                for (int i = 0; i < taken; i++) {
                    values[i] = valueOf(words[i]);
                }
                return (Integer) method.invoke(house, values);
            }
        }
        throw new IllegalStateException("no call " + name);
    }

    private Object valueOf(String word) {
        if (word.equals("true") || word.equals("false")) {
            return word.equals("true");
        }
        return names.containsKey(word) ? names.get(word) : Integer.valueOf(word);
    }

    private static int dueIn(String word) throws ReflectiveOperationException {
        String constants = "PipeHouse.";
        return word.startsWith(constants)
            ? PipeHouse.class.getField(word.substring(constants.length())).getInt(null)
            : Integer.parseInt(word);
    }

    private static void tellsOfEachCall(String text) {
        for (Method method : PipeHouse.class.getDeclaredMethods()) {
            if (Modifier.isPublic(method.getModifiers())) {
                Matcher row = Pattern.compile("(?m)^\\| `" + method.getName() + "\\(([^)]*)\\)` \\|").matcher(text);
                boolean found = row.find();
                DUE.isTrue(method.getName() + " has a row", found);
                if (found) {
                    int told = row.group(1).isEmpty() ? 0 : row.group(1).split(",").length;
                    DUE.is(method.getName() + ": arguments told", told, method.getParameterCount());
                }
            }
        }
    }

    private static void tellsOfEachTest(String text) {
        String[] files = new File("src/test/java").list();
        DUE.isTrue("there are tests", files != null);
        for (String file : files == null ? new String[0] : files) {
            if (file.endsWith("Test.java")) {
                String test = file.substring(0, file.length() - ".java".length());
                DUE.isTrue(test + " has a row", text.contains("\n| `" + test + "` |"));
            }
        }
    }
}
