/** Promises 5, 6, 8: load, set, undo. */
public final class ActsTest {
    private static final Check c = new Check();
    private static final int UNKNOWN = EnoughServers.UNKNOWN, OUTSIDE = EnoughServers.OUTSIDE, NOT = EnoughServers.NOT;
    private static final String TWO = "h9,3,1,1,4;s2,9,3,1,2,3,4,5,1;t5;q7;s1,4,0,1,1,1,1,1,1;";

    public static void main(String[] args) {
        loading();
        setting();
        settingRefused();
        undoing();
        tenActs();
        undoBringsAllBack();
        refusedCallsAreNoActs();
        c.end("ActsTest");
    }

    private static void loading() {
        EnoughServers x = Check.with(TWO);
        c.due("first", x.load(0, 0, 0), -1);
        c.due("again", x.load(0, 0, 9999), 0);
        c.due("it misses", x.load(0, 0, -1), 9999);
        c.due("it missed", x.load(0, 0, 5), -1);
        c.due("the other one", x.load(0, 1, 8), -1);
        c.due("value", x.measure(0, 0, 2), 5);
        c.due("value of the other", x.measure(0, 1, 2), 8);
        c.due("below", x.load(0, 0, -2), OUTSIDE);
        c.due("above", x.load(0, 0, 10000), OUTSIDE);
        c.due("no service", x.load(2, 0, 10000), UNKNOWN);
        c.due("no service below", x.load(-1, 0, 1), UNKNOWN);
        c.due("no measure", x.load(0, 2, 10000), UNKNOWN);
        c.due("no measure below", x.load(0, -1, 1), UNKNOWN);
        c.due("no measures", x.load(1, 0, 1), UNKNOWN);
        c.due("value stays", x.measure(0, 0, 2), 5);
    }

    private static void setting() {
        EnoughServers x = Check.with(TWO);
        int[] was = {2, 9, 3, 1, 2, 3, 4, 5, 1};
        int[] low = {0, 2, 0, 1, 1, 0, 0, 0, 1};
        int[] high = {9, 20, 9, 6, 6, 9, 99, 9, 4};
        for (int i = 0; i < 9; i++) {
            c.due("set to the last, " + i, x.set(0, i, i == 0 ? 8 : high[i]), was[i]);
            c.due("service " + i, x.service(0, i), i == 0 ? 8 : high[i]);
            c.due("above, " + i, x.set(0, i, high[i] + 1), OUTSIDE);
            c.due("set to the first, " + i, x.set(0, i, low[i]), i == 0 ? 8 : high[i]);
            c.due("below, " + i, x.set(0, i, i == 1 ? 0 : low[i] - 1), OUTSIDE);
            c.due("back, " + i, x.set(0, i, was[i]), low[i]);
        }
        c.due("which below", x.set(0, -1, 1), OUTSIDE);
        c.due("which above", x.set(0, 9, 1), OUTSIDE);
        c.due("no service", x.set(2, 9, 99), UNKNOWN);
        c.due("no service below", x.set(-1, 0, 1), UNKNOWN);
        c.due("servers stay", x.service(0, 10), 2);
    }

    private static void settingRefused() {
        EnoughServers x = Check.with(TWO);
        c.due("MOST below LEAST", x.set(0, 1, 1), NOT);
        c.due("MOST as LEAST", x.set(0, 1, 2), 9);
        c.due("LEAST above MOST", x.set(0, 0, 3), NOT);
        c.due("MOST again", x.set(0, 1, 20), 2);
        c.due("LEASTS as CAPACITY", x.set(0, 0, 8), 2);
        c.due("LEASTS above CAPACITY", x.set(1, 0, 2), NOT);
        c.due("LEASTS above CAPACITY, the first", x.set(0, 0, 9), NOT);
        c.due("LEAST of the other", x.set(1, 0, 0), 1);
        c.due("now there is room", x.set(0, 0, 9), 8);
        c.due("OUTSIDE is told first", x.set(0, 1, 0), OUTSIDE);
    }

    private static void undoing() {
        EnoughServers x = Check.with(TWO);
        c.due("none", x.undo(), NOT);
        x.load(0, 0, 20);
        x.set(0, 2, 9);
        x.round();
        c.due("three", x.count(9), 3);
        c.due("undo the round", x.undo(), 2);
        c.due("ROUND", x.count(0), 0);
        c.due("servers", x.count(2), 3);
        c.due("undo the number", x.undo(), 1);
        c.due("RANK", x.service(0, 2), 3);
        c.due("undo the value", x.undo(), 0);
        c.due("it misses", x.measure(0, 0, 2), -1);
        c.due("none", x.undo(), NOT);
        x.load(0, 0, 4);
        x.load(0, 0, 4);
        x.set(0, 2, 3);
        c.due("acts that change nothing count", x.count(9), 3);
        x.undo();
        c.due("undo one", x.undo(), 1);
        c.due("the same value", x.measure(0, 0, 2), 4);
    }

    private static void tenActs() {
        EnoughServers x = Check.with(TWO);
        for (int i = 0; i < 25; i++) x.load(0, 0, i);
        c.due("ten at most", x.count(9), 10);
        for (int i = 9; i >= 0; i--) {
            c.due("undo", x.undo(), i);
            c.due("value", x.measure(0, 0, 2), 14 + i);
        }
        c.due("no eleventh", x.undo(), NOT);
        c.due("value", x.measure(0, 0, 2), 14);
    }

    /** 28 rounds of PAST must be known, so that 18 are left when 10 are undone. */
    private static void undoBringsAllBack() {
        EnoughServers x = Check.with("h30,3,2,1,6;s1,20,3,2,3,4,50,5,3;t5;s1,4,0,1,1,1,1,1,1;a9;");
        EnoughServers y = Check.with("h30,3,2,1,6;s1,20,3,2,3,4,50,5,3;t5;s1,4,0,1,1,1,1,1,1;a9;");
        int[] loads = {3, 40, 41, 90, 12, 0, 77, 5, 60, 33, 99, 1, 20};
        for (int i = 0; i < 30; i++) {
            x.load(0, 0, loads[i % 13]);
            x.round();
            y.load(0, 0, loads[i % 13]);
            y.round();
        }
        for (int i = 0; i < 10; i++) x.round();
        for (int i = 0; i < 10; i++) x.undo();
        same(x, y);
        x.load(1, 0, 30);
        y.load(1, 0, 30);
        Check.rounds(x, 7);
        Check.rounds(y, 7);
        same(x, y);
    }

    private static void same(EnoughServers x, EnoughServers y) {
        for (int s = 0; s < 2; s++) {
            for (int i = 0; i < 16; i++) c.due("service " + s + " " + i, x.service(s, i), y.service(s, i));
            for (int i = 0; i < 28; i++) c.due("measure " + s + " " + i, x.measure(s, 0, i), y.measure(s, 0, i));
            for (int i = 0; i < 6; i++) c.due("would " + s + " " + i, x.would(s, i), y.would(s, i));
            for (int i = 0; i <= 12; i++) c.due("forecast " + s + " " + i, x.forecast(s, 0, i), y.forecast(s, 0, i));
            for (int i = 0; i <= 6; i++) c.due("starting", x.starting(s, x.count(0) + i), y.starting(s, y.count(0) + i));
            for (int i = 0; i < 3; i++) c.due("replay", x.replay(s, 2, 2, i), y.replay(s, 2, 2, i));
        }
        for (int i = 0; i < 9; i++) c.due("count " + i, x.count(i), y.count(i));
        for (int i = 0; i < 4; i++) c.due("ahead " + i, x.ahead(9, i), y.ahead(9, i));
    }

    private static void refusedCallsAreNoActs() {
        EnoughServers x = Check.with(TWO);
        x.load(0, 0, -2);
        x.load(0, 5, 1);
        x.set(0, 0, 10);
        x.set(0, 1, 1);
        x.undo();
        x.would(0, 0);
        x.ahead(5, 0);
        x.until(0, 3);
        x.best(0);
        c.due("no acts", x.count(9), 0);
        c.due("no rounds", x.count(0), 0);
    }
}
