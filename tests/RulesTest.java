import java.lang.reflect.Constructor;
import java.lang.reflect.Field;
import java.lang.reflect.Method;
import java.lang.reflect.Modifier;
import java.nio.charset.StandardCharsets;
import java.nio.file.Files;
import java.nio.file.Path;
import java.util.ArrayList;
import java.util.List;
import java.util.TreeSet;
import java.util.regex.Matcher;
import java.util.regex.Pattern;

/** The face of the class, and those rules of LANGUAGE.md that can be read off the source. */
public final class RulesTest {
    private static final String[] FACE = {
        "feed(int)", "lane()", "fault()", "told(int)", "bush(int,int)", "picker(int,int)", "gives(int,int)",
        "way(int,int)", "go(int,int)", "pick(int,int,int)", "stick(int,boolean)", "pour(int)", "day(int,boolean)",
        "drift(int)", "length(int,int,int)", "best(int,int,int,int)", "where(int,int)", "rivals(int,int,int,int)",
        "again(int,int,int)", "odds(int,int,int,int)", "whom(int,int)", "left(int,int,int)", "visited(int,int)",
        "can(int,int,int,int)", "eats(int)", "write(int,int,int)", "judge()", "tear()", "seed(int)", "keep(int)",
        "goBack(int)"};

    public static void main(String[] args) throws Exception {
        face();
        nestedClasses();
        String source = Files.readString(Path.of("src/main/java/BerryLane.java"), StandardCharsets.ISO_8859_1);
        String code = withoutComments(source);
        words(code);
        objectsAreMadeOnce(code);
        methodsStayShort(code);
        Due.end("RulesTest");
    }

    private static void face() {
        Class<?> c = BerryLane.class;
        Due.is("public final", c.getModifiers() & (Modifier.PUBLIC | Modifier.FINAL), Modifier.PUBLIC | Modifier.FINAL);
        TreeSet<String> due = new TreeSet<>(List.of(FACE));
        TreeSet<String> got = new TreeSet<>();
        TreeSet<String> names = new TreeSet<>();
        for (String f : FACE) {
            names.add(f.substring(0, f.indexOf('(')));
        }
        for (Method m : c.getDeclaredMethods()) {
            StringBuilder types = new StringBuilder();
            for (Class<?> t : m.getParameterTypes()) {
                types.append(types.length() == 0 ? "" : ",").append(t.getName());
            }
            if (Modifier.isPrivate(m.getModifiers())) {
                must("private " + m.getName() + " bears no public name", !names.contains(m.getName()));
            } else {
                must(m.getName() + " is public and gives an int", Modifier.isPublic(m.getModifiers())
                        && !Modifier.isStatic(m.getModifiers()) && m.getReturnType() == int.class);
                got.add(m.getName() + "(" + types + ")");
            }
        }
        must("the methods are " + due + ", not " + got, due.equals(got));
        for (Constructor<?> k : c.getDeclaredConstructors()) {
            must("one public constructor", Modifier.isPublic(k.getModifiers()) && k.getParameterCount() == 0);
        }
        TreeSet<String> constants = new TreeSet<>();
        for (Field f : c.getDeclaredFields()) {
            if (!Modifier.isPrivate(f.getModifiers())) {
                constants.add(Modifier.toString(f.getModifiers()) + " " + f.getType() + " " + f.getName());
            }
        }
        must("the constants are not " + constants, constants.equals(new TreeSet<>(List.of(
                "public static final int NONE", "public static final int UNKNOWN", "public static final int OUTSIDE",
                "public static final int NOT", "public static final int FULL"))));
    }

    private static void nestedClasses() {
        Class<?>[] inside = BerryLane.class.getDeclaredClasses();
        must("some twelve classes", inside.length + 1 <= 12);
        for (Class<?> c : inside) {
            must(c + " is static", Modifier.isStatic(c.getModifiers()));
            must(c + " is not public", !Modifier.isPublic(c.getModifiers()) && !Modifier.isProtected(c.getModifiers()));
            int fields = 0;
            for (Field f : c.getDeclaredFields()) {
                if (Modifier.isStatic(f.getModifiers())) {
                    must("static " + f + " is final", Modifier.isFinal(f.getModifiers()));
                } else {
                    fields++;
                }
            }
            must(c + " has some twenty fields", fields <= 20);
            for (Method m : c.getDeclaredMethods()) {
                must(m + " takes seven at most", m.getParameterCount() <= 7);
            }
        }
    }

    private static void must(String what, boolean so) {
        Due.is(what, so ? 1 : 0, 1);
    }

    private static String withoutComments(String source) {
        return source.replaceAll("(?s)/\\*.*?\\*/", "").replaceAll("//[^\n]*", "");
    }

    private static void words(String code) {
        String[] forbidden = {
            "\\bthrow\\b", "\\bthrows\\b", "\\btry\\b", "\\bcatch\\b", "\\bsynchronized\\b", "\\bassert\\b",
            "\\bpackage\\b", "->", "::", "\\bvar\\b", "\\bhashCode\\b", "\\btoString\\b", "Exact\\b", "\\bSystem\\.(?!arraycopy)",
            "\\bThread\\b", "\\bRandom\\b", "\\bdouble\\b", "\\bfloat\\b", "\\bstatic\\s*\\{", "\\bprotected\\b"};
        for (String word : forbidden) {
            must("no " + word, !Pattern.compile(word).matcher(code).find());
        }
        Matcher imports = Pattern.compile("import ([^;]*);").matcher(code);
        while (imports.find()) {
            must("import of " + imports.group(1), imports.group(1).equals("java.util.Arrays"));
        }
    }

    /** Objects come from fields' initialisers and from the two constructors that fill arrays, never from a call. */
    private static void objectsAreMadeOnce(String code) {
        List<String> inConstructors = List.of("images[i] = new Lane();", "bushes[b] = new Bush();", "pickers[p] = new Picker();");
        for (String line : code.split("\n")) {
            if (line.contains("new ")) {
                String plain = line.trim();
                must("made once: " + plain, plain.startsWith("private final ") || plain.startsWith("final ")
                        || inConstructors.contains(plain));
            }
        }
        must("no joining of texts", !code.contains("\""));
    }

    private static void methodsStayShort(String code) {
        List<Integer> starts = new ArrayList<>();
        int line = 0;
        int start = -1;
        String indent = "";
        for (String text : code.split("\n")) {
            line++;
            Matcher head = Pattern.compile("^( {4}| {8})(?! )[\\w\\[\\] ]+\\([\\w\\[\\], ]*\\) \\{$").matcher(text);
            if (start < 0 && head.find()) {
                start = line;
                indent = head.group(1);
                starts.add(line);
            } else if (start >= 0 && text.equals(indent + "}")) {
                must("the method at " + start + " has some sixty lines", line - start < 60);
                start = -1;
            }
        }
        must("methods were found", starts.size() > 60);
    }
}
