import java.util.List;

/** What the project's tests share: answers compared with those that are due, and texts written. */
final class Check {
    private int wrong = 0;
    private int calls = 0;
    private String words = "";

    /** The words of the document that the answers to come are for; they are told with each wrong one. */
    void of(String sentence) {
        words = sentence;
    }

    /** The call is told as it is written in the test, for a reader who looks for it there. */
    void due(String call, int got, int want) {
        calls++;
        if (got != want) {
            wrong++;
            System.out.println(call + " answered " + got + ", due is " + want + (words.isEmpty() ? "" : ": " + words));
        }
    }

    void holds(String what, boolean so) {
        due(what, so ? 1 : 0, 1);
    }

    /** A text on a new object: what house() and fault() answer to it. */
    void reads(String text, int answer, int fault) {
        EnoughServers x = new EnoughServers();
        due("'" + text + "' house()", read(x, text), answer);
        due("'" + text + "' fault()", x.fault(), fault);
        due("'" + text + "' count(10)", x.count(10), 0);
        due("'" + text + "' count(1)", x.count(1), fault == 0 ? answer : EnoughServers.UNKNOWN);
    }

    /** Two runs of calls, behind which all that can be asked is answered alike, all that can be undone included. */
    void alike(String what, Seen.Calls one, Seen.Calls other) {
        List<String> expected = Seen.behind(one);
        List<String> found = Seen.behind(other);
        due(what + ": how many answers there are", found.size(), expected.size());
        for (int i = 0; i < expected.size() && i < found.size(); i++) {
            if (!expected.get(i).equals(found.get(i))) {
                holds(what + ": " + found.get(i) + " in place of " + expected.get(i), false);
                return;
            }
        }
    }

    void end(String name) {
        System.out.println(name + ": " + calls + " answers, " + wrong + " wrong");
        if (wrong != 0) {
            System.exit(1);
        }
    }

    static void write(EnoughServers x, String text) {
        for (int i = 0; i < text.length(); i++) {
            x.write(text.charAt(i));
        }
    }

    static int read(EnoughServers x, String text) {
        write(x, text);
        return x.house();
    }

    static EnoughServers with(String text) {
        EnoughServers x = new EnoughServers();
        int services = read(x, text);
        if (services < 1) {
            throw new IllegalStateException("a test's text has a fault: " + text + " " + services);
        }
        return x;
    }

    static void rounds(EnoughServers x, int n) {
        for (int i = 0; i < n; i++) {
            x.round();
        }
    }
}
