/** REFUSALS: which of several is told, that what is refused changes nothing, and that none of it ever throws. */
public final class RefusalsTest {
    private static final Check c = new Check();
    private static final int UNKNOWN = EnoughServers.UNKNOWN, OUTSIDE = EnoughServers.OUTSIDE, NOT = EnoughServers.NOT, FULL = EnoughServers.FULL;
    private static final int[] FAR = {Integer.MIN_VALUE, -1000000, -1, 0, 1, 2, 3, 4, 9, 18, 50, 160, 1000000, Integer.MAX_VALUE};
    private static final String TEXT = "h9,3,3,1,3;s1,9,3,2,3,4,50,3,3;f5;q4;s2,5,5,1,2,3,99,9,2;a9;s0,4,0,1,1,1,1,1,1;";

    public static void main(String[] args) {
        unknownBeforeOutside();
        unknownBeforeNot();
        outsideBeforeNot();
        outsideBeforeFull();
        unknownBeforeOutsideWithoutAHouse();
        refusedChangesNothing();
        refusedTextsChangeNothing();
        whatIsTriedChangesNothing();
        whatIsAskedChangesNothing();
        nothingThrows();
        c.end("RefusalsTest");
    }

    private static void begin(EnoughServers x) {
        Check.read(x, TEXT);
        int[] loads = {3, 40, 12, 0, 7, 26};
        for (int load : loads) {
            x.load(0, 0, load);
            x.load(1, 0, 40 - load);
            x.load(0, 1, load / 5);
            x.round();
        }
        x.set(0, 0, 2);
        x.load(0, 0, 33);
    }

    private static EnoughServers begun() {
        EnoughServers x = new EnoughServers();
        begin(x);
        return x;
    }

    private static void unknownBeforeOutside() {
        c.of("REFUSALS, of several the first in this order: UNKNOWN .. OUTSIDE");
        EnoughServers x = begun();
        c.due("load", x.load(3, 0, 10000), UNKNOWN);
        c.due("load", x.load(0, 2, -2), UNKNOWN);
        c.due("set", x.set(3, 0, 10), UNKNOWN);
        c.due("set", x.set(-1, 9, 0), UNKNOWN);
        c.due("service", x.service(3, 16), UNKNOWN);
        c.due("measure", x.measure(3, 0, 28), UNKNOWN);
        c.due("measure", x.measure(2, 0, -1), UNKNOWN);
        c.due("starting", x.starting(3, 0), UNKNOWN);
        c.due("would", x.would(3, 6), UNKNOWN);
        c.due("why", x.why(3, -1), UNKNOWN);
        c.due("forecast", x.forecast(3, 0, 13), UNKNOWN);
        c.due("forecast", x.forecast(1, 1, -1), UNKNOWN);
        c.due("until", x.until(3, 0), UNKNOWN);
        c.due("needs", x.needs(3, 0, 100), UNKNOWN);
        c.due("needs", x.needs(1, 1, -1), UNKNOWN);
        c.due("replay", x.replay(3, 0, 7, 3), UNKNOWN);
        c.due("count, a HOUSE is there", x.count(11), OUTSIDE);
        c.due("ahead, a HOUSE is there", x.ahead(0, 4), OUTSIDE);
    }

    private static void unknownBeforeNot() {
        c.of("UNKNOWN .. NOT");
        c.due("undo()", new EnoughServers().undo(), UNKNOWN);
        EnoughServers x = begun();
        c.due("LEAST above MOST of a SERVICE that is not there", x.set(3, 0, 9), UNKNOWN);
        c.due("MOST below LEAST of a SERVICE that is not there", x.set(4, 1, 1), UNKNOWN);
    }

    private static void outsideBeforeNot() {
        c.of("OUTSIDE .. NOT");
        EnoughServers x = begun();
        c.due("LEAST 9: more than MOST, and than CAPACITY", x.set(1, 0, 9), NOT);
        c.due("LEAST 10: more than it may be, besides", x.set(1, 0, 10), OUTSIDE);
        c.due("MOST 1: less than LEAST", x.set(1, 1, 1), NOT);
        c.due("MOST 0: less than it may be, besides", x.set(1, 1, 0), OUTSIDE);
    }

    private static void outsideBeforeFull() {
        c.of("OUTSIDE .. FULL");
        EnoughServers x = new EnoughServers();
        for (int i = 0; i < 160; i++) x.write(' ');
        c.due("write(256)", x.write(256), OUTSIDE);
        c.due("write(-1)", x.write(-1), OUTSIDE);
        c.due("write(255)", x.write(255), FULL);
        c.due("write(0)", x.write(0), FULL);
    }

    private static void unknownBeforeOutsideWithoutAHouse() {
        c.of("UNKNOWN -1000001 (no HOUSE");
        EnoughServers x = new EnoughServers();
        int[] numbers = {-1, 0, 1, 100000};
        for (int n : numbers) {
            c.due("load", x.load(n, n, n), UNKNOWN);
            c.due("set", x.set(n, n, n), UNKNOWN);
            c.due("service", x.service(n, n), UNKNOWN);
            c.due("measure", x.measure(n, n, n), UNKNOWN);
            c.due("starting", x.starting(n, n), UNKNOWN);
            c.due("count", x.count(n), UNKNOWN);
            c.due("would", x.would(n, n), UNKNOWN);
            c.due("why", x.why(n, n), UNKNOWN);
            c.due("forecast", x.forecast(n, n, n), UNKNOWN);
            c.due("ahead", x.ahead(n, n), UNKNOWN);
            c.due("until", x.until(n, n), UNKNOWN);
            c.due("needs", x.needs(n, n, n), UNKNOWN);
            c.due("replay", x.replay(n, n, n, n), UNKNOWN);
            c.due("best", x.best(n), UNKNOWN);
        }
        c.due("a wrong text", Check.read(x, "h1,1,0,0,2;"), -111);
        c.due("no HOUSE yet", x.count(0), UNKNOWN);
        c.due("no HOUSE yet", x.round(), UNKNOWN);
    }

    private static void refused(String call, int answer) {
        c.holds(call + " is refused: " + answer, answer <= UNKNOWN && answer >= FULL);
    }

    private static void refusedCalls(EnoughServers x) {
        int[] outside = {-2, 10000};
        for (int v : outside) refused("load", x.load(0, 0, v));
        refused("load", x.load(3, 0, 1));
        refused("load", x.load(-1, 0, 1));
        refused("load", x.load(0, 2, 1));
        refused("load", x.load(2, 0, 1));
        for (int which = 0; which < 9; which++) {
            refused("set", x.set(0, which, -1));
            refused("set", x.set(0, which, 100));
            refused("set", x.set(3, which, 1));
        }
        refused("set", x.set(0, -1, 1));
        refused("set", x.set(0, 9, 1));
        refused("set: LEASTS above CAPACITY", x.set(0, 0, 8));
        refused("set: MOST below LEAST", x.set(1, 1, 1));
        refused("set: LEAST above MOST", x.set(2, 0, 5));
        refused("service", x.service(0, 16));
        refused("measure", x.measure(0, 0, 16));
        refused("starting", x.starting(0, 13));
        refused("count", x.count(11));
        refused("would", x.would(0, 6));
        refused("why", x.why(0, -1));
        refused("forecast", x.forecast(0, 0, 13));
        refused("ahead", x.ahead(51, 0));
        refused("until", x.until(0, 21));
        refused("needs", x.needs(0, 0, 100));
        refused("replay", x.replay(0, 7, 1, 0));
        refused("best", x.best(3));
        refused("write", x.write(256));
        refused("write", x.write(-1));
    }

    private static void refusedChangesNothing() {
        c.of("What is refused changes nothing.");
        c.alike("a HOUSE", RefusalsTest::begin, x -> {
            begin(x);
            refusedCalls(x);
        });
        c.alike("a new one", x -> Check.read(x, TEXT), x -> {
            Check.read(x, TEXT);
            refused("undo", x.undo());
            refusedCalls(x);
        });
        c.alike("none", x -> Check.read(x, TEXT), x -> {
            refused("round", x.round());
            refused("undo", x.undo());
            refusedCalls(x);
            Check.read(x, TEXT);
        });
    }

    private static void refusedTextsChangeNothing() {
        c.of("What is refused changes nothing.");
        EnoughServers x = new EnoughServers();
        for (int i = 0; i < TEXT.length(); i++) {
            x.write(TEXT.charAt(i));
            refused("write", x.write(-1 - TEXT.charAt(i)));
            refused("write", x.write(256 + TEXT.charAt(i)));
        }
        for (int i = TEXT.length(); i < 160; i++) x.write(' ');
        refused("write", x.write('9'));
        refused("round", x.round());
        c.due("count(10)", x.count(10), 160);
        c.due("house()", x.house(), 3);
        c.due("fault()", x.fault(), 0);
    }

    private static void triedCalls(EnoughServers x) {
        for (int what = 0; what <= 5; what++) x.would(0, what);
        for (int i = 0; i <= 4; i++) x.why(1, i);
        for (int h = 0; h <= 12; h++) x.forecast(0, 0, h);
        for (int what = 0; what <= 3; what++) x.ahead(50, what);
        for (int n = 1; n <= 20; n++) x.until(0, n);
        for (int n = 0; n <= 99; n += 9) x.needs(0, 1, n);
        for (int u = 1; u <= 6; u++) x.replay(1, u, 7 - u, 1);
        for (int s = 0; s <= 2; s++) x.best(s);
    }

    private static void whatIsTriedChangesNothing() {
        c.of("---- tried");
        c.alike("a HOUSE", RefusalsTest::begin, x -> {
            begin(x);
            triedCalls(x);
        });
        c.alike("a new one", x -> Check.read(x, TEXT), x -> {
            Check.read(x, TEXT);
            triedCalls(x);
        });
        c.alike("between what is done", RefusalsTest::begin, x -> {
            Check.read(x, TEXT);
            int[] loads = {3, 40, 12, 0, 7, 26};
            for (int load : loads) {
                x.load(0, 0, load);
                x.would(0, 4);
                x.ahead(50, 0);
                x.load(1, 0, 40 - load);
                x.replay(1, 6, 6, 0);
                x.load(0, 1, load / 5);
                x.best(0);
                x.until(0, 20);
                x.round();
            }
            x.needs(0, 0, 99);
            x.set(0, 0, 2);
            x.load(0, 0, 33);
        });
    }

    private static void whatIsAskedChangesNothing() {
        c.of("---- what there is");
        c.alike("a HOUSE", RefusalsTest::begin, x -> {
            begin(x);
            for (int what = 0; what <= 15; what++) x.service(1, what);
            for (int what = 0; what <= 27; what++) x.measure(0, 1, what);
            for (int r = 6; r <= 12; r++) x.starting(0, r);
            for (int what = 0; what <= 10; what++) x.count(what);
            x.fault();
        });
    }

    /** Any numbers in any state: an exception would end the test. */
    private static void nothingThrows() {
        c.of("7. No call may ever throw or fail to end, for any arguments in any state");
        for (int rounds = 0; rounds <= 40; rounds += 8) {
            for (int a : FAR) {
                EnoughServers x = Check.with(TEXT);
                Check.rounds(x, rounds);
                anyNumbers(x, a);
                c.holds("it goes on", x.round() >= 0);
            }
        }
        for (int a : FAR) anyNumbers(new EnoughServers(), a);
    }

    private static void anyNumbers(EnoughServers x, int a) {
        x.write(a);
        x.best(a);
        x.count(a);
        for (int b : FAR) {
            x.service(a, b);
            x.starting(a, b);
            x.would(a, b);
            x.why(a, b);
            x.ahead(a, b);
            x.until(a, b);
            x.load(a, b, b);
            x.load(0, a, b);
            x.set(a, b, b);
            x.set(0, a, b);
            x.measure(a, b, b);
            x.measure(0, a, b);
            x.forecast(a, b, b);
            x.forecast(0, a, b);
            x.needs(a, b, b);
            x.needs(0, a, b);
            x.replay(a, b, b, b);
            x.replay(0, a, b, 1);
            x.replay(0, 1, a, b);
        }
    }
}
