/** ACTS and promises 5, 6, 8, edge by edge: load, set, undo. */
public final class ActsEdgesTest {
    private static final Check c = new Check();
    private static final int UNKNOWN = EnoughServers.UNKNOWN, OUTSIDE = EnoughServers.OUTSIDE, NOT = EnoughServers.NOT;
    private static final String TWO = "h20,3,2,1,4;s2,9,3,1,2,3,4,5,1;t5;q7;s1,4,0,1,1,1,1,1,1;";
    private static final int[] FROM = {0, 1, 0, 1, 1, 0, 0, 0, 1};
    private static final int[] TO = {9, 20, 9, 6, 6, 9, 99, 9, 4};

    public static void main(String[] args) {
        whatTheValueWas();
        loadOfWhatIsNotThere();
        loadOutside();
        setInItsBounds();
        setOutsideOfThem();
        setWhich();
        setOfNoService();
        leastAboveMost();
        leastsAboveCapacity();
        leastsBehindTries();
        leastsOfOthers();
        setChangesNoServers();
        undoNothing();
        undoWithoutHouse();
        tenAtMost();
        theOldestIsForgotten();
        eachKindOfAct();
        actsOfNoChange();
        theLatestFirst();
        undoneActsAreGone();
        undoIsNoAct();
        undoBringsAllBack();
        undoBringsMovesBack();
        undoBringsWindowsAndStepsBack();
        undoBehindManyRounds();
        c.end("ActsEdgesTest");
    }

    private static void whatTheValueWas() {
        c.of("The VALUE of a MEASURE (0 to 9999; -1: it MISSES): what it was (NONE: it MISSED).");
        EnoughServers x = Check.with(TWO);
        int[] values = {-1, 0, 1, 9998, 9999, -1, 9999, 0, 0};
        int was = -1;
        for (int value : values) {
            c.due("load(0, 1, " + value + ")", x.load(0, 1, value), was);
            c.due("VALUE", x.measure(0, 1, 2), value);
            was = value;
        }
        c.due("the other MEASURE", x.measure(0, 0, 2), -1);
    }

    private static void loadOfWhatIsNotThere() {
        c.of("load .. UNKNOWN");
        EnoughServers x = Check.with(TWO);
        int[][] rows = {{-1, 0}, {2, 0}, {3, 0}, {4, 0}, {0, -1}, {0, 2}, {0, 3}, {1, 0}, {1, -1}, {Integer.MAX_VALUE, 0},
            {Integer.MIN_VALUE, 0}, {0, Integer.MAX_VALUE}, {0, Integer.MIN_VALUE}};
        for (int[] row : rows) {
            c.due("load(" + row[0] + ", " + row[1] + ", 1)", x.load(row[0], row[1], 1), UNKNOWN);
            c.due("load(" + row[0] + ", " + row[1] + ", 10000)", x.load(row[0], row[1], 10000), UNKNOWN);
        }
        c.due("the last that is there", x.load(0, 1, 1), -1);
        // What the former HOUSE had, and this one has not.
        c.due("house()", Check.read(x, "h20,3,2,1,4;s2,9,3,1,2,3,4,5,1;t5;"), 1);
        c.due("load(0, 1, 1)", x.load(0, 1, 1), UNKNOWN);
        c.due("set(1, 2, 1)", x.set(1, 2, 1), UNKNOWN);
    }

    private static void loadOutside() {
        c.of("load .. OUTSIDE");
        EnoughServers x = Check.with(TWO);
        x.load(0, 0, 44);
        int[] values = {-2, -3, 10000, 10001, Integer.MAX_VALUE, Integer.MIN_VALUE};
        for (int value : values) c.due("load(0, 0, " + value + ")", x.load(0, 0, value), OUTSIDE);
        c.due("VALUE", x.measure(0, 0, 2), 44);
        c.due("no ACTS", x.count(9), 1);
    }

    private static void setInItsBounds() {
        c.of("becomes v, in its bounds: what it was");
        for (int which = 0; which < 9; which++) {
            EnoughServers x = Check.with("h60,3,2,1,4;s0,20,3,2,2,3,4,5,2;");
            int was = x.service(0, which);
            for (int v = FROM[which]; v <= TO[which]; v++) {
                c.due("set(0, " + which + ", " + v + ")", x.set(0, which, v), was);
                c.due("service(0, " + which + ")", x.service(0, which), v);
                was = v;
            }
        }
        for (int which = 0; which < 9; which++) {
            EnoughServers x = Check.with("h60,3,2,1,4;s0,20,3,2,2,3,4,5,2;s0,20,3,2,2,3,4,5,2;");
            x.set(1, which, FROM[which]);
            int[] others = {0, 20, 3, 2, 2, 3, 4, 5, 2};
            for (int k = 0; k < 9; k++) {
                c.due("the other SERVICE's", x.service(0, k), others[k]);
                c.due("its other numbers", x.service(1, k), k == which ? FROM[which] : others[k]);
            }
        }
    }

    private static void setOutsideOfThem() {
        c.of("set .. OUTSIDE");
        EnoughServers x = Check.with("h60,3,2,1,4;s0,20,3,2,2,3,4,5,2;");
        for (int which = 0; which < 9; which++) {
            int[] values = {FROM[which] - 1, TO[which] + 1, -1, 100, Integer.MAX_VALUE, Integer.MIN_VALUE};
            int was = x.service(0, which);
            for (int v : values) c.due("set(0, " + which + ", " + v + ")", x.set(0, which, v), OUTSIDE);
            c.due("service(0, " + which + ")", x.service(0, which), was);
        }
        c.due("no ACTS", x.count(9), 0);
    }

    private static void setWhich() {
        c.of("which = 0 LEAST, 1 MOST, 2 RANK, 3 UP, 4 DOWN, 5 ADD, 6 PERCENT, 7 DROP, 8 PERIOD");
        EnoughServers x = Check.with("h60,3,2,1,4;s1,20,3,2,2,3,4,5,2;t1;");
        int[] whiches = {-1, 9, 10, Integer.MAX_VALUE, Integer.MIN_VALUE};
        for (int which : whiches) {
            for (int v = 0; v <= 9; v++) c.due("set(0, " + which + ", " + v + ")", x.set(0, which, v), OUTSIDE);
        }
    }

    private static void setOfNoService() {
        c.of("set .. UNKNOWN");
        EnoughServers x = Check.with(TWO);
        int[] services = {-1, 2, 3, 4, Integer.MAX_VALUE, Integer.MIN_VALUE};
        for (int s : services) {
            c.due("set(" + s + ", 2, 1)", x.set(s, 2, 1), UNKNOWN);
            c.due("set(" + s + ", 9, 1)", x.set(s, 9, 1), UNKNOWN);
            c.due("set(" + s + ", 2, 10)", x.set(s, 2, 10), UNKNOWN);
        }
        c.due("set(1, 2, 1)", x.set(1, 2, 1), 0);
    }

    private static void leastAboveMost() {
        c.of("NOT: LEAST would be more than MOST");
        EnoughServers x = Check.with("h60,3,2,1,4;s4,6,3,2,2,3,4,5,2;");
        int[] most = {OUTSIDE, NOT, NOT, NOT, 6, 4, 5};
        for (int v = 0; v <= 6; v++) c.due("MOST " + v, x.set(0, 1, v), most[v]);
        c.due("MOST 20", x.set(0, 1, 20), 6);
        c.due("MOST 6", x.set(0, 1, 6), 20);
        int[] least = {4, 0, 1, 2, 3, 4, 5, NOT, NOT, NOT, OUTSIDE};
        for (int v = 0; v <= 10; v++) c.due("LEAST " + v, x.set(0, 0, v), least[v]);
        c.due("LEAST is 6", x.service(0, 0), 6);
        c.due("MOST as LEAST", x.set(0, 1, 6), 6);
        c.due("MOST below LEAST", x.set(0, 1, 5), NOT);
        c.due("MOST is 6", x.service(0, 1), 6);
    }

    private static void leastsAboveCapacity() {
        c.of("NOT: .. LEASTS together more than CAPACITY");
        EnoughServers x = Check.with("h9,3,2,1,4;s2,20,3,2,2,3,4,5,2;s1,20,3,2,2,3,4,5,2;s3,20,3,2,2,3,4,5,2;");
        c.due("LEASTS 9", x.set(0, 0, 5), 2);
        c.due("LEASTS 10", x.set(0, 0, 6), NOT);
        c.due("LEASTS 10 by the second", x.set(1, 0, 2), NOT);
        c.due("LEASTS 10 by the last", x.set(2, 0, 4), NOT);
        c.due("as it is", x.set(0, 0, 5), 5);
        c.due("one less", x.set(1, 0, 0), 1);
        c.due("LEASTS 9 again", x.set(2, 0, 4), 3);
        c.due("LEASTS 10", x.set(0, 0, 6), NOT);
        c.due("LEASTS 0", x.set(0, 0, 0) + x.set(2, 0, 0), 9);
        c.due("LEASTS 9 by one", x.set(1, 0, 9), 0);
        EnoughServers one = Check.with("h1,3,2,1,4;s0,20,3,2,2,3,4,5,2;");
        c.due("LEAST 2, CAPACITY 1", one.set(0, 0, 2), NOT);
        c.due("LEAST 1, CAPACITY 1", one.set(0, 0, 1), 0);
        EnoughServers all = Check.with("h36,3,2,1,4;s0,9,3,2,2,3,4,5,2;s9,9,3,2,2,3,4,5,2;s9,9,3,2,2,3,4,5,2;s9,9,3,2,2,3,4,5,2;");
        c.due("LEASTS 36", all.set(0, 0, 9), 0);
    }

    /** A REPLAY is in a house of 60, a text with a FAULT may tell another CAPACITY: neither is this HOUSE's. */
    private static void leastsBehindTries() {
        c.of("LEASTS together more than CAPACITY");
        EnoughServers x = Check.with("h9,3,2,1,4;s2,20,3,2,2,3,4,5,2;t1;s1,20,3,2,2,3,4,5,2;");
        x.replay(0, 1, 1, 0);
        c.due("LEASTS 10 behind replay()", x.set(0, 0, 9), NOT);
        x.best(0);
        c.due("LEASTS 10 behind best()", x.set(0, 0, 9), NOT);
        Check.read(x, "h60,3,2,1,4;s9,x");
        c.due("LEASTS 10 behind a text of CAPACITY 60", x.set(0, 0, 9), NOT);
        Check.read(x, "h1,3,2,1,4;s1,20,x");
        c.due("LEASTS 9 behind a text of CAPACITY 1", x.set(0, 0, 8), 2);
    }

    /** MOST is no matter of CAPACITY, nor is any other number. */
    private static void leastsOfOthers() {
        c.of("LEASTS together more than CAPACITY");
        EnoughServers x = Check.with("h2,3,2,1,4;s1,1,3,2,2,3,4,5,2;s1,1,3,2,2,3,4,5,2;");
        c.due("MOST 20 of CAPACITY 2", x.set(0, 1, 20), 1);
        c.due("RANK 9", x.set(0, 2, 9), 3);
        c.due("ADD 9", x.set(0, 5, 9), 3);
        c.due("LEAST 2", x.set(0, 0, 2), NOT);
    }

    private static void setChangesNoServers() {
        c.of("A number of a SERVICE .. becomes v");
        EnoughServers x = Check.with("h20,3,2,1,4;s2,9,3,1,2,3,4,5,1;t5;");
        x.set(0, 0, 6);
        c.due("COUNT, LEAST is 6", x.service(0, 10), 2);
        x.round();
        c.due("COUNT behind a ROUND", x.service(0, 10), 6);
        x.set(0, 0, 1);
        x.set(0, 1, 3);
        c.due("COUNT, MOST is 3", x.service(0, 10), 6);
        x.round();
        c.due("COUNT behind a ROUND", x.service(0, 10), 3);
    }

    private static void undoNothing() {
        c.of("NOT: none can.");
        EnoughServers x = Check.with(TWO);
        c.due("undo()", x.undo(), NOT);
        x.round();
        c.due("undo()", x.undo(), 0);
        c.due("undo()", x.undo(), NOT);
        c.due("undo()", x.undo(), NOT);
        c.due("count(9)", x.count(9), 0);
    }

    private static void undoWithoutHouse() {
        c.of("undo .. UNKNOWN");
        EnoughServers x = new EnoughServers();
        c.due("undo()", x.undo(), UNKNOWN);
        Check.read(x, "h0");
        c.due("undo() behind a FAULT", x.undo(), UNKNOWN);
    }

    private static void tenAtMost() {
        c.of("ACTS (10 at most are kept");
        EnoughServers x = Check.with(TWO);
        for (int i = 1; i <= 13; i++) {
            x.load(0, 0, i);
            c.due("count(9) behind " + i, x.count(9), Math.min(i, 10));
        }
        for (int left = 9; left >= 0; left--) c.due("undo()", x.undo(), left);
        c.due("undo()", x.undo(), NOT);
    }

    private static void theOldestIsForgotten() {
        c.of("of more the oldest is forgotten");
        for (int acts = 9; acts <= 33; acts++) {
            EnoughServers x = Check.with(TWO);
            for (int i = 1; i <= acts; i++) x.load(0, 0, i);
            int left = Math.min(acts, 10);
            for (int i = 1; i <= left; i++) {
                x.undo();
                c.due("VALUE with " + i + " of " + acts + " undone", x.measure(0, 0, 2), acts == i ? -1 : acts - i);
            }
            c.due("undo()", x.undo(), NOT);
        }
    }

    private static void eachKindOfAct() {
        c.of("a VALUE told (or that it MISSES), a number of a SERVICE told anew, a ROUND");
        EnoughServers x = Check.with(TWO);
        x.load(0, 0, 8);
        c.due("a VALUE", x.count(9), 1);
        x.load(0, 0, -1);
        c.due("that it MISSES", x.count(9), 2);
        for (int which = 0; which < 9; which++) x.set(0, which, x.service(0, which) == 2 ? 1 : 2);
        c.due("numbers: LEAST, MOST, RANK, UP, DOWN, ADD, PERCENT, DROP, PERIOD", x.count(9), 10);
        int[] was = {2, 9, 3, 1, 2, 3, 4, 5, 1};
        for (int which = 8; which >= 0; which--) {
            c.due("another number " + which, x.service(0, which) == was[which] ? 1 : 0, 0);
            x.undo();
            c.due("number " + which, x.service(0, which), was[which]);
        }
        c.due("undo()", x.undo(), 0);
        c.due("VALUE", x.measure(0, 0, 2), 8);
        EnoughServers y = Check.with(TWO);
        y.round();
        c.due("a ROUND", y.count(9), 1);
        c.due("undo()", y.undo(), 0);
        c.due("R", y.count(0), 0);
    }

    private static void actsOfNoChange() {
        c.of("also such by which nothing becomes another");
        EnoughServers x = Check.with(TWO);
        x.load(0, 0, -1);
        c.due("it MISSED before", x.count(9), 1);
        x.load(0, 0, 5);
        x.load(0, 0, 5);
        c.due("the same VALUE", x.count(9), 3);
        x.set(0, 2, 3);
        c.due("the same number", x.count(9), 4);
        c.due("undo()", x.undo(), 3);
        c.due("undo()", x.undo(), 2);
        c.due("VALUE", x.measure(0, 0, 2), 5);
        c.due("undo()", x.undo(), 1);
        c.due("VALUE", x.measure(0, 0, 2), -1);
        c.due("undo()", x.undo(), 0);
        c.due("VALUE", x.measure(0, 0, 2), -1);
        // Ten of them are kept as any ten are: that which changed something is forgotten.
        x.load(0, 0, 9);
        for (int i = 0; i < 10; i++) x.load(0, 0, 9);
        for (int i = 0; i < 10; i++) x.undo();
        c.due("VALUE", x.measure(0, 0, 2), 9);
        c.due("undo()", x.undo(), NOT);
    }

    private static void theLatestFirst() {
        c.of("each can be undone, the latest first");
        EnoughServers x = Check.with(TWO);
        x.load(0, 0, 33);
        x.round();
        x.set(0, 2, 8);
        x.load(0, 0, 44);
        c.due("undo the VALUE", x.undo(), 3);
        c.due("VALUE", x.measure(0, 0, 2), 33);
        c.due("RANK", x.service(0, 2), 8);
        c.due("undo the number", x.undo(), 2);
        c.due("RANK", x.service(0, 2), 3);
        c.due("R", x.count(0), 1);
        c.due("undo the ROUND", x.undo(), 1);
        c.due("R", x.count(0), 0);
        c.due("VALUE", x.measure(0, 0, 2), 33);
        c.due("undo the VALUE", x.undo(), 0);
        c.due("VALUE", x.measure(0, 0, 2), -1);
    }

    private static void undoneActsAreGone() {
        c.of("The latest ACT is undone: how many can be yet.");
        EnoughServers x = Check.with(TWO);
        for (int i = 1; i <= 25; i++) x.load(0, 0, i);
        for (int i = 0; i < 4; i++) x.undo();
        for (int i = 101; i <= 103; i++) x.load(0, 0, i);
        c.due("6 and 3", x.count(9), 9);
        int[] values = {102, 101, 21, 20, 19, 18, 17, 16, 15};
        for (int i = 0; i < 9; i++) {
            c.due("undo()", x.undo(), 8 - i);
            c.due("VALUE", x.measure(0, 0, 2), values[i]);
        }
        c.due("undo()", x.undo(), NOT);
    }

    private static void undoIsNoAct() {
        c.of("ACTS .. a VALUE told (or that it MISSES), a number of a SERVICE told anew, a ROUND.");
        EnoughServers x = Check.with(TWO);
        x.load(0, 0, 1);
        x.load(0, 0, 2);
        x.undo();
        c.due("undo() is not undone", x.undo(), 0);
        c.due("VALUE", x.measure(0, 0, 2), -1);
        // Texts, what is asked and what is tried are none.
        x.write('h');
        x.house();
        x.ahead(3, 0);
        x.best(0);
        x.service(0, 0);
        c.due("count(9)", x.count(9), 0);
        c.due("THE TEXT is not undone", x.write('h'), 1);
        x.round();
        x.undo();
        c.due("bytes", x.count(10), 1);
        c.due("fault()", x.fault(), 1);
    }

    private static void someActs(EnoughServers x) {
        x.load(0, 0, 66);
        x.round();
        x.set(0, 0, 4);
        x.set(1, 8, 4);
        x.load(1, 0, -1);
        x.round();
        x.set(0, 3, 1);
        x.load(0, 1, 0);
        x.round();
        x.round();
    }

    private static void undoAll(EnoughServers x, int acts) {
        for (int i = 0; i < acts; i++) x.undo();
    }

    /** Windows, steps, flutters, sums, the pool, servers that are STARTING, PAST: ten ACTS back all is as it was. */
    private static void undoBringsAllBack() {
        c.of("The latest ACT is undone");
        for (int rounds = 0; rounds <= 8; rounds += 4) {
            EnoughServers x = Three.played(rounds);
            EnoughServers y = Three.played(rounds);
            someActs(x);
            undoAll(x, 10);
            sameAnswers(x, y);
            Three.play(x, 8, 12);
            Three.play(y, 8, 12);
            sameAnswers(x, y);
        }
        c.alike("four done, three of them undone and done again",
            x -> {
                Check.read(x, Three.TEXT);
                someActs(x);
            },
            x -> {
                Check.read(x, Three.TEXT);
                someActs(x);
                undoAll(x, 3);
                x.load(0, 1, 0);
                x.round();
                x.round();
            });
    }

    private static void undoBringsMovesBack() {
        c.of("The latest ACT is undone");
        EnoughServers x = Check.with("h60,1,0,0,2;s0,20,0,1,1,9,0,9,1;t1;");
        x.load(0, 0, 4);
        x.round();
        x.load(0, 0, 2);
        x.round();
        c.due("it gave up two", x.service(0, 15), 1);
        x.undo();
        c.due("undone", x.service(0, 15), 0);
        x.load(0, 0, 6);
        x.round();
        c.due("it got some behind getting some", x.service(0, 15), 0);
        x.load(0, 0, 5);
        x.round();
        x.undo();
        x.undo();
        x.undo();
        x.load(0, 0, 1);
        x.round();
        c.due("it gave up three behind getting four", x.service(0, 15), 1);
    }

    private static void undoBringsWindowsAndStepsBack() {
        c.of("The latest ACT is undone");
        EnoughServers x = Check.with("h60,1,0,0,2;s0,20,0,2,2,9,0,2,2;t1;");
        int[] loads = {9, 9, 9, 4};
        for (int load : loads) {
            x.load(0, 0, load);
            x.round();
        }
        c.due("the window keeps 9", x.count(2), 9);
        x.round();
        c.due("two are given up", x.count(2), 7);
        x.undo();
        c.due("STEADY, by WANTS 4, 4", x.would(0, 1), 4);
        c.due("BOUND, nothing being LOST", x.would(0, 2), 7);
        x.undo();
        c.due("STEADY, by WANTS 9, 4", x.would(0, 1), 9);
    }

    /** 28 ROUNDS must be kept, so that 18 are left in the PAST when ten are undone. */
    private static void undoBehindManyRounds() {
        c.of("PAST .. (18 at most) .. ACTS (10 at most are kept");
        int[] rounds = {7, 8, 17, 18, 19, 30, 33};
        for (int done : rounds) {
            EnoughServers x = Three.played(done);
            EnoughServers y = Three.played(done);
            Check.rounds(x, 10);
            undoAll(x, 10);
            sameAnswers(x, y);
        }
    }

    private static void sameAnswers(EnoughServers x, EnoughServers y) {
        for (int i = 0; i < 9; i++) c.due("count " + i, x.count(i), y.count(i));
        for (int s = 0; s < 3; s++) {
            for (int i = 9; i < 16; i++) c.due("service " + s + " " + i, x.service(s, i), y.service(s, i));
            for (int i = 0; i < 6; i++) c.due("would " + s + " " + i, x.would(s, i), y.would(s, i));
        }
        for (int i = 2; i < 28; i++) c.due("measure " + i, x.measure(0, 0, i), y.measure(0, 0, i));
        for (int i = 0; i < 3; i++) {
            c.due("forecast " + i, x.forecast(0, 0, i), y.forecast(0, 0, i));
            c.due("ahead " + i, x.ahead(6, i), y.ahead(6, i));
            c.due("replay " + i, x.replay(0, 2, 3, i), y.replay(0, 2, 3, i));
        }
    }
}
