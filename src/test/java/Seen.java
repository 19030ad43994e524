import java.util.ArrayList;
import java.util.List;

/**
 * All that can be asked behind a run of calls, but for fault(), which is of a text and not of a HOUSE. The run is done
 * anew on a new object for every few questions, so that no object is used for more than 512 calls, and once more for
 * each ACT that can be undone.
 */
final class Seen {
    interface Calls {
        void on(EnoughServers x);
    }

    private static final int[] AHEAD = {0, 1, 2, 3, 7, 50, 51};
    private static final int[] NEEDED = {-1, 0, 1, 2, 3, 4, 5, 7, 10, 20, 50, 99, 100};

    private final Calls calls;
    private final int undone;
    private final List<String> answers;

    private Seen(Calls calls, int undone, List<String> answers) {
        this.calls = calls;
        this.undone = undone;
        this.answers = answers;
    }

    static List<String> behind(Calls calls) {
        List<String> answers = new ArrayList<>();
        EnoughServers x = new EnoughServers();
        calls.on(x);
        int acts = x.count(9);
        for (int undone = 0; undone <= Math.max(acts, 0); undone++) {
            new Seen(calls, undone, answers).askAll();
        }
        return answers;
    }

    private EnoughServers made() {
        EnoughServers x = new EnoughServers();
        calls.on(x);
        for (int i = 0; i < undone; i++) {
            x.undo();
        }
        return x;
    }

    private void add(String question, int answer) {
        answers.add((undone == 0 ? "" : undone + " undone, ") + question + " = " + answer);
    }

    private void askAll() {
        EnoughServers x = made();
        for (int what = -1; what <= 11; what++) add("count(" + what + ")", x.count(what));
        for (int n : AHEAD) {
            for (int what = -1; what <= 4; what++) add("ahead(" + n + ", " + what + ")", x.ahead(n, what));
        }
        int services = x.count(1);
        for (int s = 0; s < services; s++) {
            askOfService(s);
            askReplays(s);
            for (int m = 0; m < x.service(s, 9); m++) askOfMeasure(s, m);
        }
    }

    private void askOfService(int s) {
        EnoughServers x = made();
        int round = x.count(0);
        for (int what = -1; what <= 16; what++) add("service(" + s + ", " + what + ")", x.service(s, what));
        for (int r = round - 1; r <= round + 7; r++) add("starting(" + s + ", " + r + ")", x.starting(s, r));
        for (int what = -1; what <= 6; what++) add("would(" + s + ", " + what + ")", x.would(s, what));
        for (int i = -1; i <= 4; i++) add("why(" + s + ", " + i + ")", x.why(s, i));
        for (int n = 0; n <= 21; n++) add("until(" + s + ", " + n + ")", x.until(s, n));
        add("best(" + s + ")", x.best(s));
    }

    private void askReplays(int s) {
        EnoughServers x = made();
        for (int u = 1; u <= 6; u++) {
            for (int d = 1; d <= 6; d++) {
                for (int what = 0; what <= 2; what++) {
                    add("replay(" + s + ", " + u + ", " + d + ", " + what + ")", x.replay(s, u, d, what));
                }
            }
        }
    }

    private void askOfMeasure(int s, int m) {
        EnoughServers x = made();
        String of = "(" + s + ", " + m + ", ";
        for (int what = -1; what <= 28; what++) add("measure" + of + what + ")", x.measure(s, m, what));
        for (int h = -1; h <= 13; h++) add("forecast" + of + h + ")", x.forecast(s, m, h));
        for (int n : NEEDED) add("needs" + of + n + ")", x.needs(s, m, n));
    }
}
