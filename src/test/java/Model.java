import java.util.ArrayList;
import java.util.Collections;
import java.util.List;

/**
 * The document once more, slowly and in another shape: what there is, is played anew from the text and the ACTS for
 * every question, servers are a list of ROUNDS in which they become READY, and needs() tries every VALUE.
 */
final class Model {
    static final int UNKNOWN = -1000001, OUTSIDE = -1000002, NOT = -1000003, FULL = -1000004;
    private static final int[][] HOUSE_BOUNDS = {{1, 60}, {1, 6}, {0, 9}, {0, 3}, {2, 6}};
    private static final int[][] BOUNDS = {{0, 9}, {1, 20}, {0, 9}, {1, 6}, {1, 6}, {0, 9}, {0, 99}, {0, 9}, {1, 4}};

    private final StringBuilder text = new StringBuilder();
    private int fault = 0;
    private Plan plan = null;
    private final List<int[]> acts = new ArrayList<>();
    private int undoable = 0;

    /** What a text tells: the house's numbers, the services' numbers and their measures (kind, target). */
    private static final class Plan {
        int[] house = new int[5];
        final List<int[]> services = new ArrayList<>();
        final List<List<int[]>> measures = new ArrayList<>();
    }

    private static final class Fault extends Exception {
        private static final long serialVersionUID = 1L;
        final int kind;
        final int place;

        Fault(int kind, int place) {
            this.kind = kind;
            this.place = place;
        }
    }

    // ---- texts

    int write(int letter) {
        if (letter < 0 || letter > 255) return OUTSIDE;
        if (text.length() == 160) return FULL;
        text.append((char) letter);
        return text.length();
    }

    int house() {
        String read = text.toString();
        text.setLength(0);
        try {
            plan = parse(read);
        } catch (Fault f) {
            fault = f.kind;
            return -100 - f.place;
        }
        fault = 0;
        acts.clear();
        undoable = 0;
        return plan.services.size();
    }

    int fault() {
        return fault;
    }

    private static Plan parse(String s) throws Fault {
        List<String> tokens = new ArrayList<>();
        List<Integer> places = new ArrayList<>();
        java.util.regex.Matcher m = java.util.regex.Pattern.compile("[0-9]+|[^ ]", java.util.regex.Pattern.DOTALL).matcher(s);
        while (m.find()) {
            tokens.add(m.group());
            places.add(m.start());
        }
        tokens.add("");
        places.add(s.length());
        int[] at = {0};
        Plan p = new Plan();
        expect(tokens, places, at, "h");
        for (int i = 0; i < 5; i++) {
            p.house[i] = number(tokens, places, at, HOUSE_BOUNDS[i][0], HOUSE_BOUNDS[i][1]);
            expect(tokens, places, at, i < 4 ? "," : ";");
        }
        int leasts = 0;
        do {
            if (tokens.get(at[0]).equals("s") && p.services.size() == 4) throw new Fault(3, places.get(at[0]));
            expect(tokens, places, at, "s");
            int[] n = new int[9];
            for (int i = 0; i < 9; i++) {
                int place = places.get(at[0]);
                n[i] = number(tokens, places, at, i == 1 && n[0] > 1 ? n[0] : BOUNDS[i][0], BOUNDS[i][1]);
                if (i == 0) leasts += n[0];
                if (i == 0 && leasts > p.house[0]) throw new Fault(4, place);
                expect(tokens, places, at, i < 8 ? "," : ";");
            }
            p.services.add(n);
            List<int[]> measures = new ArrayList<>();
            while (!tokens.get(at[0]).isEmpty() && "tfaq".contains(tokens.get(at[0]))) {
                if (measures.size() == 3) throw new Fault(3, places.get(at[0]));
                int kind = 1 + "tfaq".indexOf(tokens.get(at[0]++));
                measures.add(new int[] {kind, number(tokens, places, at, 1, 99)});
                expect(tokens, places, at, ";");
            }
            p.measures.add(measures);
        } while (!tokens.get(at[0]).isEmpty());
        return p;
    }

    private static void expect(List<String> tokens, List<Integer> places, int[] at, String wanted) throws Fault {
        if (!tokens.get(at[0]).equals(wanted)) throw new Fault(1, places.get(at[0]));
        at[0]++;
    }

    private static int number(List<String> tokens, List<Integer> places, int[] at, int low, int high) throws Fault {
        String t = tokens.get(at[0]);
        if (!t.matches("[0-9]+")) throw new Fault(1, places.get(at[0]));
        if (t.length() > 2 || Integer.parseInt(t) < low || Integer.parseInt(t) > high) throw new Fault(2, places.get(at[0]));
        at[0]++;
        return Integer.parseInt(t);
    }

    // ---- what happens

    /** What one service was in one ROUND. */
    private static final class Row {
        int want, steady, bound, due, got, gave, count, ready, place = -1, lacked;
        int[] values;
    }

    private static final class Serv {
        int[] n;
        List<int[]> measures;
        int[] values;
        List<Integer> servers = new ArrayList<>();
        List<Row> rows = new ArrayList<>();

        int count() {
            return servers.size();
        }

        int readyBehindStepOne(int round) {
            int k = 0;
            for (int r : servers) if (r <= round) k++;
            return k;
        }
    }

    private static final class State {
        int[] house;
        List<Serv> services = new ArrayList<>();
        int pool;
        int round = 0;

        int servers() {
            int k = 0;
            for (Serv s : services) k += s.count();
            return k;
        }
    }

    private static State start(Plan p) {
        State st = new State();
        st.house = p.house.clone();
        st.pool = p.house[2];
        for (int i = 0; i < p.services.size(); i++) {
            Serv s = new Serv();
            s.n = p.services.get(i).clone();
            s.measures = p.measures.get(i);
            s.values = new int[s.measures.size()];
            java.util.Arrays.fill(s.values, -1);
            for (int k = 0; k < s.n[0]; k++) s.servers.add(-1);
            st.services.add(s);
        }
        return st;
    }

    private State now() {
        State st = start(plan);
        for (int[] act : acts) {
            if (act[0] == 0) st.services.get(act[1]).values[act[2]] = act[3];
            else if (act[0] == 1) st.services.get(act[1]).n[act[2]] = act[3];
            else step(st);
        }
        return st;
    }

    private static int up(long a, long b) {
        return (int) Math.ceil((double) a / (double) b);
    }

    private static int forecast(State st, Serv s, int m, int h) {
        int from = Math.max(0, s.rows.size() - 18);
        long sum = 0;
        int k = 0;
        for (int back : new int[] {1, 2, 3}) {
            int r = st.round + h - back * st.house[4];
            if (r < from || r >= s.rows.size()) continue;
            int v = s.rows.get(r).values[m];
            if (v == -1) continue;
            sum += v;
            k++;
        }
        return k == 0 ? 0 : up(sum, k);
    }

    private static int want(State st, Serv s, int m, int value) {
        int kind = s.measures.get(m)[0];
        int target = s.measures.get(m)[1];
        if (value == -1) return s.count();
        if (kind == 1) return up(value, target);
        if (kind == 2) return up(Math.max(value, forecast(st, s, m, st.house[1])), target);
        if (kind == 3) {
            if (Math.abs(value - target) * 10 <= target) return s.count();
            int ready = s.readyBehindStepOne(st.round);
            return up((long) (ready == 0 ? 1 : ready) * value, target);
        }
        if (value == 0) return s.count() == 0 ? 0 : s.count() - 1;
        return s.count() + (value - 1) / target;
    }

    private static int want(State st, Serv s) {
        if (s.measures.isEmpty()) return s.n[0];
        int w = Integer.MIN_VALUE;
        for (int m = 0; m < s.measures.size(); m++) w = Math.max(w, want(st, s, m, s.values[m]));
        return w;
    }

    private static Row planned(State st, Serv s) {
        Row row = new Row();
        row.want = want(st, s);
        List<Integer> wants = new ArrayList<>();
        wants.add(row.want);
        for (int i = s.rows.size() - 1; i >= 0; i--) wants.add(s.rows.get(i).want);
        int least = Collections.min(wants.subList(0, Math.min(wants.size(), s.n[3])));
        int greatest = Collections.max(wants.subList(0, Math.min(wants.size(), s.n[4])));
        int count = s.count();
        row.steady = count < least ? least : count > greatest ? greatest : count;
        int gained = 0;
        int lost = 0;
        for (int i = s.rows.size() - 1; i >= 0 && i > s.rows.size() - s.n[8]; i--) {
            gained += s.rows.get(i).got;
            lost += s.rows.get(i).gave;
        }
        int floor = count + lost - s.n[7];
        int b = count - gained < 0 ? 0 : count - gained;
        int ceiling = b + Math.max(s.n[5], up((long) b * s.n[6], 100));
        row.bound = count;
        if (row.steady < count) {
            int that = Math.max(row.steady, floor);
            row.bound = that > count ? count : that;
        }
        if (row.steady > count) {
            int that = Math.min(row.steady, ceiling);
            row.bound = that < count ? count : that;
        }
        row.due = row.bound < s.n[0] ? s.n[0] : row.bound > s.n[1] ? s.n[1] : row.bound;
        row.values = s.values.clone();
        return row;
    }

    private static void step(State st) {
        int r = st.round;
        List<Row> rows = new ArrayList<>();
        for (Serv s : st.services) rows.add(planned(st, s));
        List<Integer> line = new ArrayList<>();
        for (int i = 0; i < rows.size(); i++) {
            Serv s = st.services.get(i);
            Row row = rows.get(i);
            Collections.sort(s.servers);
            while (s.count() > row.due) {
                s.servers.remove(s.count() - 1);
                row.gave++;
            }
            if (s.count() < row.due) line.add(i);
        }
        line.sort((a, b) -> {
            Serv x = st.services.get(a);
            Serv y = st.services.get(b);
            if (x.n[2] != y.n[2]) return y.n[2] - x.n[2];
            long left = (long) x.count() * rows.get(b).due;
            long right = (long) y.count() * rows.get(a).due;
            return left != right ? Long.compare(left, right) : a - b;
        });
        for (int place = 0; place < line.size(); place++) {
            Serv s = st.services.get(line.get(place));
            Row row = rows.get(line.get(place));
            row.place = place;
            while (s.count() < row.due && st.servers() < st.house[0]) {
                boolean warm = st.pool > 0;
                if (warm) st.pool--;
                s.servers.add(warm ? r + 1 : r + st.house[1]);
                row.got++;
            }
            row.lacked = row.due - s.count();
        }
        st.pool = Math.min(st.pool + st.house[3], st.house[2]);
        for (int i = 0; i < rows.size(); i++) {
            rows.get(i).count = st.services.get(i).count();
            rows.get(i).ready = st.services.get(i).readyBehindStepOne(r);
            st.services.get(i).rows.add(rows.get(i));
        }
        st.round++;
    }

    private static int spent(Serv s) {
        return s.rows.stream().mapToInt(row -> row.count).sum();
    }

    private static int lack(Serv s) {
        return s.rows.stream().mapToInt(row -> Math.max(0, row.want - row.ready)).sum();
    }

    private static int flutters(Serv s) {
        StringBuilder moves = new StringBuilder();
        for (Row row : s.rows) moves.append(row.got > 0 ? "+" : row.gave > 0 ? "-" : "");
        int k = 0;
        for (int i = 1; i < moves.length(); i++) if (moves.charAt(i) != moves.charAt(i - 1)) k++;
        return k;
    }

    // ---- what is done

    private boolean no(int service) {
        return plan == null || service < 0 || service >= plan.services.size();
    }

    private boolean no(int service, int measure) {
        return no(service) || measure < 0 || measure >= plan.measures.get(service).size();
    }

    private void act(int... act) {
        acts.add(act);
        undoable = Math.min(10, undoable + 1);
    }

    int load(int service, int measure, int value) {
        if (no(service, measure)) return UNKNOWN;
        if (value < -1 || value > 9999) return OUTSIDE;
        int was = now().services.get(service).values[measure];
        act(0, service, measure, value);
        return was;
    }

    int set(int service, int which, int v) {
        if (no(service)) return UNKNOWN;
        if (which < 0 || which > 8 || v < BOUNDS[which][0] || v > BOUNDS[which][1]) return OUTSIDE;
        State st = now();
        int was = st.services.get(service).n[which];
        st.services.get(service).n[which] = v;
        if (st.services.get(service).n[0] > st.services.get(service).n[1]) return NOT;
        int sum = 0;
        for (Serv s : st.services) sum += s.n[0];
        if (sum > st.house[0]) return NOT;
        act(1, service, which, v);
        return was;
    }

    int round() {
        if (plan == null) return UNKNOWN;
        act(2);
        return now().servers();
    }

    int undo() {
        if (plan == null) return UNKNOWN;
        if (undoable == 0) return NOT;
        acts.remove(acts.size() - 1);
        return --undoable;
    }

    // ---- what there is

    int service(int service, int what) {
        if (no(service)) return UNKNOWN;
        if (what < 0 || what > 15) return OUTSIDE;
        State st = now();
        Serv s = st.services.get(service);
        if (what < 9) return s.n[what];
        if (what == 9) return s.measures.size();
        if (what == 10) return s.count();
        if (what == 11) return s.readyBehindStepOne(st.round - 1);
        if (what == 12) return s.servers.stream().filter(r -> r >= st.round).mapToInt(r -> r).min().orElse(-1);
        if (what == 13) return spent(s);
        return what == 14 ? lack(s) : flutters(s);
    }

    int measure(int service, int measure, int what) {
        if (no(service, measure)) return UNKNOWN;
        State st = now();
        Serv s = st.services.get(service);
        if (what == 0 || what == 1) return s.measures.get(measure)[what];
        if (what == 2) return s.values[measure];
        if (what == 3) return want(st, s, measure, s.values[measure]);
        int past = Math.min(18, s.rows.size());
        if (what == 4) return past;
        if (what < 10 || what - 10 >= past) return OUTSIDE;
        return s.rows.get(s.rows.size() - 1 - (what - 10)).values[measure];
    }

    int starting(int service, int round) {
        if (no(service)) return UNKNOWN;
        State st = now();
        if (round < st.round || round > st.round + 6) return OUTSIDE;
        return (int) st.services.get(service).servers.stream().filter(r -> r == round).count();
    }

    int count(int what) {
        if (what == 10) return text.length();
        if (plan == null) return UNKNOWN;
        if (what < 0 || what > 10) return OUTSIDE;
        State st = now();
        if (what == 0) return st.round;
        if (what == 1) return st.services.size();
        if (what == 2) return st.servers();
        if (what == 3) return st.pool;
        return what == 9 ? undoable : st.house[what - 4];
    }

    // ---- tried

    private Row next(int service) {
        State st = now();
        step(st);
        List<Row> rows = st.services.get(service).rows;
        return rows.get(rows.size() - 1);
    }

    int would(int service, int what) {
        if (no(service)) return UNKNOWN;
        if (what < 0 || what > 5) return OUTSIDE;
        Row row = next(service);
        return new int[] {row.want, row.steady, row.bound, row.due, row.count, row.place}[what];
    }

    int why(int service, int i) {
        if (no(service)) return UNKNOWN;
        if (i < 0) return OUTSIDE;
        Row row = next(service);
        List<Integer> causes = new ArrayList<>();
        if (row.lacked > 0) causes.add(4);
        if (row.due != row.bound) causes.add(3);
        if (row.bound != row.steady) causes.add(2);
        if (row.steady != row.want) causes.add(1);
        return i < causes.size() ? causes.get(i) : -1;
    }

    int forecast(int service, int measure, int h) {
        if (no(service, measure)) return UNKNOWN;
        if (h < 0 || h > 12) return OUTSIDE;
        State st = now();
        return forecast(st, st.services.get(service), measure, h);
    }

    int ahead(int n, int what) {
        if (plan == null) return UNKNOWN;
        if (n < 1 || n > 50 || what < 0 || what > 3) return OUTSIDE;
        State st = now();
        int spent = 0;
        int lack = 0;
        for (int i = 0; i < n; i++) {
            step(st);
            for (Serv s : st.services) {
                Row row = s.rows.get(s.rows.size() - 1);
                spent += row.count;
                lack += Math.max(0, row.want - row.ready);
            }
        }
        return new int[] {st.servers(), spent, lack, st.pool}[what];
    }

    int until(int service, int n) {
        if (no(service)) return UNKNOWN;
        if (n < 1 || n > 20) return OUTSIDE;
        State st = now();
        for (int i = 1; i <= 50; i++) {
            step(st);
            if (st.services.get(service).readyBehindStepOne(st.round) >= n) return i;
        }
        return -1;
    }

    int needs(int service, int measure, int n) {
        if (no(service, measure)) return UNKNOWN;
        if (n < 0 || n > 99) return OUTSIDE;
        State st = now();
        Serv s = st.services.get(service);
        for (int v = 0; v <= 9999; v++) {
            s.values[measure] = v;
            if (want(st, s) >= n) return v;
        }
        return -1;
    }

    private int[] replayed(State st, int service, int u, int d) {
        Serv old = st.services.get(service);
        Plan alone = new Plan();
        alone.house = new int[] {60, st.house[1], 0, 0, st.house[4]};
        int[] n = old.n.clone();
        n[3] = u;
        n[4] = d;
        alone.services.add(n);
        alone.measures.add(old.measures);
        State again = start(alone);
        Serv s = again.services.get(0);
        for (int i = Math.max(0, old.rows.size() - 18); i < old.rows.size(); i++) {
            s.values = old.rows.get(i).values.clone();
            step(again);
        }
        return new int[] {spent(s), lack(s), flutters(s)};
    }

    int replay(int service, int u, int d, int what) {
        if (no(service)) return UNKNOWN;
        if (u < 1 || u > 6 || d < 1 || d > 6 || what < 0 || what > 2) return OUTSIDE;
        return replayed(now(), service, u, d)[what];
    }

    int best(int service) {
        if (no(service)) return UNKNOWN;
        State st = now();
        int best = 66;
        int least = Integer.MAX_VALUE;
        for (int u = 6; u >= 1; u--) {
            for (int d = 6; d >= 1; d--) {
                int[] r = replayed(st, service, u, d);
                int costs = r[0] + 5 * r[1] + 3 * r[2];
                if (costs <= least) {
                    least = costs;
                    best = 10 * u + d;
                }
            }
        }
        return best;
    }
}
