import java.io.File;
import java.net.URL;
import java.net.URLClassLoader;
import java.nio.file.Files;
import java.nio.file.Path;
import java.util.ArrayList;
import java.util.List;
import java.util.Set;
import java.util.TreeSet;
import java.util.regex.Matcher;
import java.util.regex.Pattern;

/** What README.md says of the class is what the class does: its Java is compiled and run, its tables are tried. */
public final class ReadmeTest {
    private static final Check c = new Check();
    private static final Pattern BLOCK = Pattern.compile("```java\n(.*?)```", Pattern.DOTALL);
    private static final Pattern CALL = Pattern.compile("(x\\..*\\)); +// (-?[0-9]+)(: .*|)");
    private static final Pattern BOUNDS = Pattern.compile("\\| ([A-Z]+) \\| ([0-9]+) to ([0-9]+) \\| .* \\|");
    private static final Pattern FAULT = Pattern.compile("\\| ([0-9]) \\| .* \\| `(.*)` \\| (-[0-9]+) \\|");
    private static final Pattern REFUSAL = Pattern.compile("\\| `([A-Z]+)` \\| (-[0-9]+) \\| .* \\|");
    private static final String[] NUMBERS = {
        "CAPACITY", "COLD", "POOL", "REFILL", "SEASON",
        "LEAST", "MOST", "RANK", "UP", "DOWN", "ADD", "PERCENT", "DROP", "PERIOD", "TARGET"};

    private interface Asked {
        int by(EnoughServers x, int what);
    }

    public static void main(String[] args) throws Exception {
        String page = Files.readString(Path.of("README.md"));
        javaOfThePage(page);
        bounds(page);
        faults(page);
        refusals(page);
        whats(page, "service(s, what)", (x, what) -> x.service(0, what));
        whats(page, "measure(s, m, what)", (x, what) -> x.measure(0, 0, what));
        whats(page, "count(what)", (x, what) -> x.count(what));
        whats(page, "would(s, what)", (x, what) -> x.would(0, what));
        whats(page, "ahead(n, what)", (x, what) -> x.ahead(1, what));
        whats(page, "replay(s, u, d, what)", (x, what) -> x.replay(0, 1, 1, what));
        everyCallIsThere(page);
        everyTestIsThere(page);
        c.end("ReadmeTest");
    }

    /** The blocks are one run: a call that stands alone in its line must have its answer behind it. */
    private static void javaOfThePage(String page) throws Exception {
        StringBuilder body = new StringBuilder();
        List<String> calls = new ArrayList<>();
        List<Integer> dues = new ArrayList<>();
        Matcher blocks = BLOCK.matcher(page);
        while (blocks.find()) {
            for (String line : blocks.group(1).split("\n")) {
                Matcher call = CALL.matcher(line);
                if (call.matches()) {
                    calls.add(call.group(1));
                    dues.add(Integer.parseInt(call.group(2)));
                    body.append("answers.add(").append(call.group(1)).append(");\n");
                } else {
                    c.holds("README.md tells the answer: " + line, !line.startsWith("x."));
                    body.append(line).append("\n");
                }
            }
        }
        c.holds("README.md has calls", calls.size() > 0);
        List<?> answers = run(body.toString());
        for (int i = 0; i < calls.size(); i++) {
            c.due("README.md: " + calls.get(i), i < answers.size() ? (Integer) answers.get(i) : 0, dues.get(i));
        }
    }

    private static List<?> run(String body) throws Exception {
        Path folder = Files.createTempDirectory("readme");
        Path source = folder.resolve("ReadmeRun.java");
        Path made = folder.resolve("ReadmeRun.class");
        Files.writeString(source, "public final class ReadmeRun {\n"
            + "public static java.util.List<Integer> answers() {\n"
            + "java.util.List<Integer> answers = new java.util.ArrayList<>();\n" + body + "return answers;\n}\n}\n");
        try {
            int failed = new ProcessBuilder("javac", "-cp", System.getProperty("java.class.path"), "-d", folder.toString(),
                source.toString()).inheritIO().start().waitFor();
            c.due("the Java of README.md is compiled", failed, 0);
            if (failed != 0) {
                return List.of();
            }
            try (URLClassLoader loader = new URLClassLoader(new URL[] {folder.toUri().toURL()})) {
                return (List<?>) loader.loadClass("ReadmeRun").getMethod("answers").invoke(null);
            }
        } finally {
            Files.deleteIfExists(made);
            Files.deleteIfExists(source);
            Files.deleteIfExists(folder);
        }
    }

    private static void bounds(String page) {
        Matcher rows = BOUNDS.matcher(page);
        int i = 0;
        while (rows.find()) {
            c.holds("README.md has the numbers in the order of a text: " + rows.group(1),
                i < NUMBERS.length && rows.group(1).equals(NUMBERS[i]));
            int from = Integer.parseInt(rows.group(2));
            int to = Integer.parseInt(rows.group(3));
            for (int v = Math.max(0, from - 1); v <= to + 1; v++) {
                boolean within = v >= from && v <= to;
                EnoughServers x = new EnoughServers();
                Check.read(x, textWith(i, v));
                c.due("README.md: fault of a text with " + rows.group(1) + " " + v, x.fault(), within ? 0 : 2);
                if (i >= 5 && i < 14) {
                    int was = Check.with(textWith(-1, 0)).set(0, i - 5, v);
                    c.holds("README.md: " + rows.group(1) + " set to " + v, was != EnoughServers.OUTSIDE == within);
                }
            }
            i++;
        }
        c.due("README.md: numbers that have bounds", i, NUMBERS.length);
    }

    /** A text whose numbers are all right, but for the one at this place. */
    private static String textWith(int place, int v) {
        int[] n = {60, 1, 0, 0, 2, 0, 20, 0, 1, 1, 0, 0, 0, 1, 1};
        String[] ahead = {"h", ",", ",", ",", ",", ";s", ",", ",", ",", ",", ",", ",", ",", ",", ";t"};
        StringBuilder text = new StringBuilder();
        for (int i = 0; i < n.length; i++) {
            text.append(ahead[i]).append(i == place ? v : n[i]);
        }
        return text.append(";").toString();
    }

    private static void faults(String page) {
        Matcher rows = FAULT.matcher(page);
        int i = 0;
        while (rows.find()) {
            i++;
            c.due("README.md: the fault's number", Integer.parseInt(rows.group(1)), i);
            c.reads(rows.group(2), Integer.parseInt(rows.group(3)), i);
        }
        c.due("README.md: faults", i, 4);
    }

    private static void refusals(String page) throws Exception {
        Matcher rows = REFUSAL.matcher(page);
        StringBuilder order = new StringBuilder();
        while (rows.find()) {
            order.append(rows.group(1)).append(" ");
            c.due("README.md: " + rows.group(1), Integer.parseInt(rows.group(2)),
                EnoughServers.class.getField(rows.group(1)).getInt(null));
        }
        c.holds("README.md has the refusals in their order: " + order, order.toString().equals("UNKNOWN OUTSIDE NOT FULL "));
    }

    /** The row of a call names each what by its number: these, and no others, are answered. Two ROUNDS are done. */
    private static void whats(String page, String call, Asked asked) {
        Matcher row = Pattern.compile(Pattern.quote("| `" + call + "` | ") + "(.*) \\|").matcher(page);
        c.holds("README.md has a row of " + call, row.find());
        Set<Integer> named = new TreeSet<>();
        Matcher what = Pattern.compile("(?:^|: |, )([0-9]+) [A-Za-z]").matcher(row.group(1).replaceAll("\\([^)]*\\)", ""));
        while (what.find()) {
            named.add(Integer.parseInt(what.group(1)));
        }
        Set<Integer> answered = new TreeSet<>();
        for (int i = -2; i <= 40; i++) {
            EnoughServers x = Check.with(textWith(-1, 0));
            Check.rounds(x, 2);
            if (asked.by(x, i) != EnoughServers.OUTSIDE) {
                answered.add(i);
            }
        }
        c.holds("README.md: " + call + " is told for " + named + ", answered for " + answered, named.equals(answered));
    }

    private static void everyCallIsThere(String page) {
        for (java.lang.reflect.Method m : EnoughServers.class.getMethods()) {
            if (m.getDeclaringClass() == EnoughServers.class) {
                c.holds("README.md has " + m.getName(), Pattern.compile("\\bx\\." + m.getName() + "\\(").matcher(page).find());
            }
        }
    }

    private static void everyTestIsThere(String page) {
        Set<String> told = new TreeSet<>();
        Matcher names = Pattern.compile("`([A-Za-z]+Test)`").matcher(page);
        while (names.find()) {
            told.add(names.group(1));
        }
        Set<String> found = new TreeSet<>();
        for (File f : new File("src/test/java").listFiles()) {
            if (f.getName().endsWith("Test.java")) {
                found.add(f.getName().replace(".java", ""));
            }
        }
        c.holds("README.md: tests told " + told + ", tests there " + found, told.equals(found));
    }
}
