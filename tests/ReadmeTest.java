import java.lang.reflect.Method;
import java.lang.reflect.Modifier;
import java.nio.file.Files;
import java.nio.file.Path;
import java.util.HashMap;
import java.util.Map;
import java.util.regex.Matcher;
import java.util.regex.Pattern;

/** What README.md shows is so: its calls answer what stands behind them, and it names every call. */
public final class ReadmeTest {
    public static void main(String[] args) throws Exception {
        String page = Files.readString(Path.of("README.md"));
        Map<String, Method> face = face();
        for (String name : face.keySet()) {
            Due.is("README.md names " + name, page.contains("`" + name + "(") ? 1 : 0, 1);
        }
        for (String word : new String[] {"NONE", "UNKNOWN", "OUTSIDE", "NOT", "FULL"}) {
            Due.is("README.md names " + word, page.contains("`" + word + "`") ? 1 : 0, 1);
        }
        Due.is("README.md says how to run the tests", page.contains("bash .ci/run") ? 1 : 0, 1);
        signatures(page, face);
        example(page, face);
        Due.end("ReadmeTest");
    }

    private static Map<String, Method> face() {
        Map<String, Method> face = new HashMap<>();
        for (Method m : BerryLane.class.getDeclaredMethods()) {
            if (Modifier.isPublic(m.getModifiers())) {
                face.put(m.getName(), m);
            }
        }
        return face;
    }

    /** Each call is told with as many arguments as it takes. */
    private static void signatures(String page, Map<String, Method> face) {
        Matcher told = Pattern.compile("`(\\w+)\\(([^)]*)\\)`").matcher(page);
        while (told.find()) {
            Method m = face.get(told.group(1));
            Due.is("there is " + told.group(), m == null ? 0 : 1, 1);
            String arguments = told.group(2).trim();
            int many = arguments.isEmpty() ? 0 : arguments.split(",").length;
            Due.is("arguments of " + told.group(), many, m == null ? -1 : m.getParameterCount());
        }
    }

    /** The lines of the first example, one behind the other on one lane. */
    private static void example(String page, Map<String, Method> face) throws Exception {
        Matcher text = Pattern.compile("for \\(char c : \"([^\"]*)\"").matcher(page);
        Due.is("README.md tells a lane", text.find() ? 1 : 0, 1);
        BerryLane x = new BerryLane();
        Due.feed(x, text.group(1));
        Matcher line = Pattern.compile("(?m)^x\\.(\\w+)\\((.*)\\);\\s*// (-?\\d+)\\b").matcher(page);
        int lines = 0;
        while (line.find()) {
            Method m = face.get(line.group(1));
            String[] words = line.group(2).isEmpty() ? new String[0] : line.group(2).split(",\\s*");
            Object[] arguments = new Object[words.length];
            for (int i = 0; i < words.length; i++) {
                arguments[i] = m.getParameterTypes()[i] == boolean.class
                        ? (Object) Boolean.valueOf(words[i]) : (Object) numberOf(words[i]);
            }
            Due.is(line.group(), (Integer) m.invoke(x, arguments), Integer.parseInt(line.group(3)));
            lines++;
        }
        Matcher calls = Pattern.compile("(?m)^x\\.").matcher(page);
        Due.is("each call of the example tells its answer", lines, calls.results().count());
    }

    private static int numberOf(String word) {
        return word.equals("BerryLane.NONE") ? BerryLane.NONE : Integer.parseInt(word);
    }
}
