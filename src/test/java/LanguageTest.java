import java.io.IOException;
import java.lang.reflect.Constructor;
import java.lang.reflect.Field;
import java.lang.reflect.Method;
import java.lang.reflect.Modifier;
import java.nio.file.Files;
import java.nio.file.Path;
import java.util.ArrayList;
import java.util.List;
import java.util.Set;
import java.util.TreeSet;
import java.util.regex.Matcher;
import java.util.regex.Pattern;

/** What of ../shared/LANGUAGE.md a look at the source and at the compiled face can tell. */
public final class LanguageTest {
    private static final Path SOURCE = Path.of("src/main/java/CabTears.java");
    private static final String FACE = "write(int) wipe() fault() lay() far(int,int) cab(int,int) fare(int,int) take(int,int) "
        + "send(int,int) pass(int) undo() ride(int,int,int) soonest(int) order(int) waiting(int,int) round(int) mends(int) "
        + "rivals(int,int,int,int) see(int,int,int) forget() wept(int,int) kinds(int) tears(int,int,int) year(int,int,int) "
        + "keep() back() count(int)";
    private static final String[] RULED_OUT = {"import ", "package ", "->", "::", "synchronized", "assert", "finally",
        "catch", "throw", "static \\{", "instanceof", "\"\\s*\\+", "\\+\\s*\"", "\\bvar\\b", "System\\.(?!arraycopy)",
        "Exact", "\\bMath\\.(?!max\\(|min\\(|abs\\()", "while", "@", "hashCode", "\\bdouble\\b", "\\bfloat\\b"};

    public static void main(String[] args) throws IOException {
        String source = Files.readString(SOURCE);
        Check.test("rule 1 the face", LanguageTest::face);
        Check.test("rule 1 names of private methods", LanguageTest::names);
        Check.test("rules 3 to 6 words that are ruled out", () -> ruledOut(source));
        Check.test("rule 4 signs", () -> signs(source));
        Check.test("rule 11 methods, parameters, classes, fields", () -> sizes(source));
        Check.test("rule 12 nothing is made but in constructors", () -> makes(source));
        Check.end();
    }

    private static void isTrue(String what, boolean holds) {
        Check.due(what, holds ? 1 : 0, 1);
    }

    private static String signature(Method m) {
        List<String> types = new ArrayList<>();
        for (Class<?> p : m.getParameterTypes()) types.add(p.getName());
        return m.getName() + "(" + String.join(",", types) + ")";
    }

    private static void face() {
        Set<String> due = new TreeSet<>(List.of(FACE.split(" ")));
        Set<String> got = new TreeSet<>();
        for (Method m : CabTears.class.getDeclaredMethods()) {
            if (Modifier.isPublic(m.getModifiers())) {
                got.add(signature(m));
                isTrue(m + " is no int of an object", m.getReturnType() == int.class && !Modifier.isStatic(m.getModifiers()));
            } else {
                isTrue(m + " is not private", Modifier.isPrivate(m.getModifiers()));
            }
        }
        isTrue("the face is " + got, got.equals(due));
        isTrue("final", Modifier.isFinal(CabTears.class.getModifiers()));
        Set<String> open = new TreeSet<>();
        for (Field f : CabTears.class.getDeclaredFields()) {
            if (!Modifier.isPrivate(f.getModifiers())) open.add(f.getName());
        }
        isTrue("the constants are " + open, open.equals(new TreeSet<>(List.of("BAD", "NO", "FULL", "NONE"))));
        Constructor<?>[] makers = CabTears.class.getDeclaredConstructors();
        isTrue("one constructor", makers.length == 1 && makers[0].getParameterCount() == 0);
    }

    private static void names() {
        Set<String> face = new TreeSet<>();
        for (String s : FACE.split(" ")) face.add(s.substring(0, s.indexOf('(')));
        for (Class<?> c : CabTears.class.getDeclaredClasses()) {
            for (Method m : c.getDeclaredMethods()) isTrue(m + " bears a public name", !face.contains(m.getName()));
        }
        for (Method m : CabTears.class.getDeclaredMethods()) {
            isTrue(m + " bears a public name", Modifier.isPublic(m.getModifiers()) || !face.contains(m.getName()));
        }
    }

    private static void ruledOut(String source) {
        String code = source.replaceAll("/\\*(?s:.)*?\\*/", "").replaceAll("//.*", "");
        for (String word : RULED_OUT) {
            Matcher m = Pattern.compile(word).matcher(code);
            isTrue("no " + word, !m.find());
        }
    }

    private static void signs(String source) {
        for (char c : source.toCharArray()) {
            if (c > 126 || c < 32 && c != '\n') isTrue("sign " + (int) c, false);
        }
    }

    private static void sizes(String source) {
        Class<?>[] inside = CabTears.class.getDeclaredClasses();
        isTrue(inside.length + " classes inside", inside.length <= 11);
        List<Class<?>> all = new ArrayList<>(List.of(inside));
        all.add(CabTears.class);
        for (Class<?> c : all) {
            isTrue(c + " is open", c == CabTears.class || Modifier.isStatic(c.getModifiers()));
            int fields = 0;
            for (Field f : c.getDeclaredFields()) fields += Modifier.isStatic(f.getModifiers()) ? 0 : 1;
            isTrue(c + " has " + fields + " fields", fields <= 20);
            for (Method m : c.getDeclaredMethods()) isTrue(m + " takes too much", m.getParameterCount() <= 7);
            for (Field f : c.getDeclaredFields()) {
                isTrue(f + " is static, not final", !Modifier.isStatic(f.getModifiers()) || Modifier.isFinal(f.getModifiers()));
            }
        }
        int start = -1;
        String[] lines = source.split("\n");
        for (int i = 0; i < lines.length; i++) {
            if (lines[i].matches(" {4,8}\\S.*\\) \\{")) start = i;
            if (lines[i].matches(" {4,8}\\}") && start >= 0) {
                isTrue(lines[start] + " is long", i - start < 60);
                start = -1;
            }
        }
    }

    /** A method that makes something would eat up the room of a run; fields and constructors make once. */
    private static void makes(String source) {
        boolean inMethod = false;
        for (String line : source.split("\n")) {
            if (line.matches(" {4,8}\\S.*\\) \\{")) inMethod = !line.matches(" {4,8}(public )?[A-Z]\\w*\\(.*");
            if (line.matches(" {4,8}\\}")) inMethod = false;
            isTrue(line, !inMethod || !line.contains("new "));
        }
    }
}
