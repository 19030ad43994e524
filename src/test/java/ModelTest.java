import java.util.ArrayList;
import java.util.List;
import java.util.Random;

/** Runs of calls drawn by fixed seeds: the class and the slow model answer the same. Covers all promises at once. */
public final class ModelTest {
    private static final int RUNS = 1500;
    /** What an object answers behind so many is free. */
    private static final int CALLS = 512;
    private static final String[] NAMES = {
        "write", "house", "fault", "load", "set", "round", "undo", "service", "measure", "starting", "count",
        "would", "why", "forecast", "ahead", "until", "needs", "replay", "best"};
    private static final int[] WEIGHTS = {1, 1, 1, 22, 8, 26, 5, 5, 6, 3, 3, 9, 7, 4, 3, 3, 4, 3, 1};

    private final Random random;
    private final EnoughServers x = new EnoughServers();
    private final Model model = new Model();
    private final List<String> told = new ArrayList<>();
    private final int scale;

    private ModelTest(int seed) {
        random = new Random(seed);
        scale = new int[] {5, 20, 60, 200, 2000, 9999}[random.nextInt(6)];
    }

    public static void main(String[] args) {
        int runs = args.length > 0 ? Integer.parseInt(args[0]) : RUNS;
        for (int seed = 0; seed < runs; seed++) {
            ModelTest run = new ModelTest(seed);
            String wrong = run.play();
            if (wrong != null) {
                System.out.println("seed " + seed + ": " + wrong);
                System.exit(1);
            }
        }
        System.out.println("ModelTest: " + runs + " runs, all as the model answers");
    }

    private String play() {
        String wrong = random.nextInt(8) == 0 ? null : tellText(false);
        while (told.size() < CALLS && wrong == null) {
            wrong = NAMES[drawn()].equals("house") ? tellText(random.nextInt(3) > 0) : compared(call());
        }
        return wrong;
    }

    private int drawn() {
        int sum = 0;
        for (int w : WEIGHTS) sum += w;
        int left = random.nextInt(sum);
        int i = 0;
        while (left >= WEIGHTS[i]) left -= WEIGHTS[i++];
        return i;
    }

    /** Within the bounds mostly, a little beyond them sometimes, far beyond them seldom. */
    private int near(int low, int high) {
        int r = random.nextInt(40);
        if (r == 0) return new int[] {Integer.MIN_VALUE, Integer.MAX_VALUE, -1, -2, high + 1, low - 1}[random.nextInt(6)];
        if (r == 1) return low - 1 + random.nextInt(2) * (high - low + 2);
        return low + random.nextInt(high - low + 1);
    }

    private int serviceNumber() {
        int services = Math.max(1, model.count(1));
        return near(0, services - 1);
    }

    private int[] call() {
        int which = drawn();
        int s = serviceNumber();
        int m = near(0, Math.max(1, model.service(s, 9)) - 1);
        switch (NAMES[which]) {
            case "write": return new int[] {which, near(0, 255)};
            case "load": return new int[] {which, s, m, random.nextInt(9) == 0 ? -1 : random.nextInt(5) == 0 ? near(0, 9999) : near(0, scale)};
            case "set": return setCall(which, s);
            case "service": return new int[] {which, s, near(0, 15)};
            case "measure": return new int[] {which, s, m, near(0, 27)};
            case "starting": return new int[] {which, s, near(0, 6) + Math.max(0, model.count(0))};
            case "count": return new int[] {which, near(0, 10)};
            case "would": return new int[] {which, s, near(0, 5)};
            case "why": return new int[] {which, s, near(0, 3)};
            case "forecast": return new int[] {which, s, m, near(0, 12)};
            case "ahead": return new int[] {which, near(1, 50), near(0, 3)};
            case "until": return new int[] {which, s, near(1, 20)};
            case "needs": return new int[] {which, s, m, random.nextBoolean() ? near(0, 20) : near(0, 99)};
            case "replay": return new int[] {which, s, near(1, 6), near(1, 6), near(0, 2)};
            case "best": return new int[] {which, s};
            default: return new int[] {which};
        }
    }

    private int[] setCall(int which, int s) {
        int number = near(0, 8);
        int[] high = {9, 20, 9, 6, 6, 9, 99, 9, 4};
        return new int[] {which, s, number, near(0, number < 0 || number > 8 ? 9 : high[number])};
    }

    private String compared(int[] c) {
        if (told.size() >= CALLS) return null;
        int got = answer(c, true);
        int want = answer(c, false);
        StringBuilder line = new StringBuilder(NAMES[c[0]]).append("(");
        for (int i = 1; i < c.length; i++) line.append(i > 1 ? ", " : "").append(c[i]);
        told.add(line.append(") ").append(got).toString());
        return got == want ? null : told + " but the model says " + want;
    }

    private int answer(int[] c, boolean mine) {
        switch (NAMES[c[0]]) {
            case "write": return mine ? x.write(c[1]) : model.write(c[1]);
            case "house": return mine ? x.house() : model.house();
            case "fault": return mine ? x.fault() : model.fault();
            case "load": return mine ? x.load(c[1], c[2], c[3]) : model.load(c[1], c[2], c[3]);
            case "set": return mine ? x.set(c[1], c[2], c[3]) : model.set(c[1], c[2], c[3]);
            case "round": return mine ? x.round() : model.round();
            case "undo": return mine ? x.undo() : model.undo();
            case "service": return mine ? x.service(c[1], c[2]) : model.service(c[1], c[2]);
            case "measure": return mine ? x.measure(c[1], c[2], c[3]) : model.measure(c[1], c[2], c[3]);
            case "starting": return mine ? x.starting(c[1], c[2]) : model.starting(c[1], c[2]);
            case "count": return mine ? x.count(c[1]) : model.count(c[1]);
            case "would": return mine ? x.would(c[1], c[2]) : model.would(c[1], c[2]);
            case "why": return mine ? x.why(c[1], c[2]) : model.why(c[1], c[2]);
            case "forecast": return mine ? x.forecast(c[1], c[2], c[3]) : model.forecast(c[1], c[2], c[3]);
            case "ahead": return mine ? x.ahead(c[1], c[2]) : model.ahead(c[1], c[2]);
            case "until": return mine ? x.until(c[1], c[2]) : model.until(c[1], c[2]);
            case "needs": return mine ? x.needs(c[1], c[2], c[3]) : model.needs(c[1], c[2], c[3]);
            case "replay": return mine ? x.replay(c[1], c[2], c[3], c[4]) : model.replay(c[1], c[2], c[3], c[4]);
            default: return mine ? x.best(c[1]) : model.best(c[1]);
        }
    }

    private String tellText(boolean spoilt) {
        // What is left of stray write() calls would spoil every text: it is read, and fails, first.
        String wrong = compared(new int[] {1});
        String text = spoilt ? spoil(text()) : text();
        for (int i = 0; i < text.length() && wrong == null; i++) {
            wrong = compared(new int[] {0, text.charAt(i)});
        }
        if (wrong == null) wrong = compared(new int[] {1});
        return wrong == null ? compared(new int[] {2}) : wrong;
    }

    private int in(int low, int high) {
        return low + random.nextInt(high - low + 1);
    }

    private String text() {
        int capacity = random.nextInt(3) == 0 ? in(1, 60) : in(5, 20);
        StringBuilder s = new StringBuilder("h" + capacity + "," + in(1, 6) + "," + in(0, 9) + "," + in(0, 3) + "," + in(2, 6) + ";");
        int left = capacity;
        int services = in(1, 4);
        for (int i = 0; i < services; i++) {
            int least = Math.min(left, in(0, 4));
            left -= least;
            s.append("s" + least + "," + in(Math.max(1, least), 20) + "," + in(0, 3) + "," + in(1, 6) + "," + in(1, 6));
            s.append("," + in(0, 9) + "," + in(0, 99) + "," + in(0, 9) + "," + in(1, 4) + ";");
            int measures = in(0, 3);
            for (int k = 0; k < measures; k++) s.append("tfaq".charAt(in(0, 3))).append(in(1, random.nextBoolean() ? 99 : 12)).append(";");
        }
        return s.toString();
    }

    private String spoil(String text) {
        StringBuilder s = new StringBuilder(text);
        int changes = in(1, 3);
        for (int i = 0; i < changes; i++) {
            int at = random.nextInt(s.length());
            char c = "hs,;tfaq0123456789  x\0\t".charAt(random.nextInt(23));
            switch (random.nextInt(6)) {
                case 0: s.delete(at, s.length() > 1 ? at + 1 : at); break;
                case 1: s.setCharAt(at, c); break;
                case 2: s.insert(at, c); break;
                case 3: s.insert(at, ' '); break;
                case 4: s.setLength(at + 1); break;
                default: s.append(random.nextBoolean() ? "t9;" : "s0,9,1,1,1,1,1,1,1;"); break;
            }
        }
        return s.toString();
    }
}
