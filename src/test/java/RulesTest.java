import java.lang.reflect.Field;
import java.lang.reflect.Method;
import java.lang.reflect.Modifier;
import java.nio.file.Files;
import java.nio.file.Path;
import java.util.Set;
import java.util.TreeSet;
import java.util.regex.Matcher;
import java.util.regex.Pattern;

/** The face of the document, and those rules of LANGUAGE.md that a machine can look for. */
public final class RulesTest {
    private static final Check c = new Check();
    private static final Path SOURCE = Path.of("src/main/java/EnoughServers.java");
    private static final Set<String> FACE = Set.of(
        "write(int)", "house()", "fault()", "load(int,int,int)", "set(int,int,int)", "round()", "undo()",
        "service(int,int)", "measure(int,int,int)", "starting(int,int)", "count(int)", "would(int,int)",
        "why(int,int)", "forecast(int,int,int)", "ahead(int,int)", "until(int,int)", "needs(int,int,int)",
        "replay(int,int,int,int)", "best(int)");

    public static void main(String[] args) throws Exception {
        face();
        constants();
        classesInside();
        words();
        methodLengths();
        nothingIsMadeByCalls();
        c.end("RulesTest");
    }

    private static String signature(Method m) {
        StringBuilder s = new StringBuilder(m.getName()).append("(");
        for (Class<?> type : m.getParameterTypes()) s.append(s.charAt(s.length() - 1) == '(' ? "" : ",").append(type);
        return s.append(")").toString();
    }

    private static void face() {
        Class<?> face = EnoughServers.class;
        c.holds("public and final", Modifier.isPublic(face.getModifiers()) && Modifier.isFinal(face.getModifiers()));
        Set<String> found = new TreeSet<>();
        Set<String> names = new TreeSet<>();
        for (Method m : face.getDeclaredMethods()) {
            if (Modifier.isPrivate(m.getModifiers())) continue;
            c.holds(m + " is public, no static one, answers int",
                Modifier.isPublic(m.getModifiers()) && !Modifier.isStatic(m.getModifiers()) && m.getReturnType() == int.class);
            found.add(signature(m));
            names.add(m.getName());
        }
        c.holds("the methods are those of the document: " + found, found.equals(new TreeSet<>(FACE)));
        c.due("constructors", face.getDeclaredConstructors().length, 1);
        c.due("its parameters", face.getDeclaredConstructors()[0].getParameterCount(), 0);
        privateNames(face, names);
        for (Class<?> inside : face.getDeclaredClasses()) privateNames(inside, names);
    }

    private static void privateNames(Class<?> of, Set<String> names) {
        for (Method m : of.getDeclaredMethods()) {
            c.holds(m + " has seven parameters at most", m.getParameterCount() <= 7);
            if (Modifier.isPrivate(m.getModifiers())) c.holds(m + " has a name of its own", !names.contains(m.getName()));
        }
    }

    private static void constants() throws Exception {
        String[] names = {"NONE", "UNKNOWN", "OUTSIDE", "NOT", "FULL"};
        int[] values = {-1, -1000001, -1000002, -1000003, -1000004};
        for (int i = 0; i < names.length; i++) {
            Field f = EnoughServers.class.getDeclaredField(names[i]);
            c.holds(names[i] + " is public static final",
                (f.getModifiers() & (Modifier.PUBLIC | Modifier.STATIC | Modifier.FINAL)) == (Modifier.PUBLIC | Modifier.STATIC | Modifier.FINAL));
            c.due(names[i], f.getInt(null), values[i]);
        }
        for (Field f : EnoughServers.class.getDeclaredFields()) {
            c.holds(f + " is private, or of the document",
                Modifier.isPrivate(f.getModifiers()) || Set.of(names).contains(f.getName()));
        }
    }

    private static void classesInside() {
        Class<?>[] inside = EnoughServers.class.getDeclaredClasses();
        c.holds("some twelve classes", inside.length < 12);
        fields(EnoughServers.class);
        for (Class<?> one : inside) {
            c.holds(one + " is static", Modifier.isStatic(one.getModifiers()));
            c.holds(one + " is not public", !Modifier.isPublic(one.getModifiers()) && !Modifier.isProtected(one.getModifiers()));
            fields(one);
        }
    }

    private static void fields(Class<?> of) {
        int own = 0;
        for (Field f : of.getDeclaredFields()) {
            if (Modifier.isStatic(f.getModifiers())) c.holds(f + " is final", Modifier.isFinal(f.getModifiers()));
            else own++;
        }
        c.holds(of + " has some twenty fields", own <= 20);
    }

    /** The source without its comments and signs in quotes. */
    private static String code() throws Exception {
        String text = Files.readString(SOURCE);
        return text.replaceAll("(?s)/\\*.*?\\*/", "").replaceAll("//[^\n]*", "").replaceAll("'[^'\n]*'", "0");
    }

    private static void words() throws Exception {
        String code = code();
        String[] banned = {
            "\\bthrows?\\b", "\\btry\\b", "\\bcatch\\b", "\\bfinally\\b", "\\bsynchronized\\b", "\\bassert\\b", "->", "::",
            "Exact\\b", "\"", "\\bequals\\b", "\\bhashCode\\b", "\\btoString\\b", "\\bpackage\\b", "\\bRandom\\b",
            "\\bThread\\b", "System\\.(?!arraycopy)", "\\bnull\\b", "\\bfloat\\b", "\\bdouble\\b", "static\\s*\\{"};
        for (String word : banned) c.holds("not in the source: " + word, !Pattern.compile(word).matcher(code).find());
        Matcher imports = Pattern.compile("import ([^;]*);").matcher(code);
        while (imports.find()) c.holds("import " + imports.group(1), imports.group(1).equals("java.util.Arrays"));
    }

    private static void methodLengths() throws Exception {
        String[] lines = Files.readString(SOURCE).split("\n");
        int start = -1;
        for (int i = 0; i < lines.length; i++) {
            if (lines[i].matches(" {4,8}(public|private)[^=;]*\\) \\{")) start = i;
            if (start >= 0 && lines[i].matches(" {4,8}\\}")) {
                c.holds("line " + (start + 1) + ": a short method", i - start < 60);
                start = -1;
            }
        }
    }

    /** All that there is, is made with the object: "new" stands in fields and constructors alone. */
    private static void nothingIsMadeByCalls() throws Exception {
        Matcher made = Pattern.compile("[^\n]*\\bnew\\b[^\n]*").matcher(code());
        while (made.find()) {
            String line = made.group().strip();
            c.holds("made with the object: " + line,
                line.startsWith("private final ") || line.matches("(kept|services|measures)\\[i\\] = new [A-Z][a-z]*\\(\\);"));
        }
    }
}
