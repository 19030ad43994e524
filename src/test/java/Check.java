/** What the project's tests share: answers compared with those that are due, and texts written. */
final class Check {
    private int wrong = 0;
    private int calls = 0;

    /** The call is told as it is written in the test, for a reader who looks for it there. */
    void due(String call, int got, int want) {
        calls++;
        if (got != want) {
            wrong++;
            System.out.println(call + " answered " + got + ", due is " + want);
        }
    }

    void holds(String what, boolean so) {
        due(what, so ? 1 : 0, 1);
    }

    void end(String name) {
        System.out.println(name + ": " + calls + " answers, " + wrong + " wrong");
        if (wrong != 0) {
            System.exit(1);
        }
    }

    static void write(EnoughServers x, String text) {
        for (int i = 0; i < text.length(); i++) {
            x.write(text.charAt(i));
        }
    }

    static int read(EnoughServers x, String text) {
        write(x, text);
        return x.house();
    }

    static EnoughServers with(String text) {
        EnoughServers x = new EnoughServers();
        int services = read(x, text);
        if (services < 1) {
            throw new IllegalStateException("a test's text has a fault: " + text + " " + services);
        }
        return x;
    }

    static void rounds(EnoughServers x, int n) {
        for (int i = 0; i < n; i++) {
            x.round();
        }
    }
}
