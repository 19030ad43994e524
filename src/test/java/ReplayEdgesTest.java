/** Section 3 of the terms and promises 19, 20, edge by edge: replay, best. */
public final class ReplayEdgesTest {
    private static final Check c = new Check();
    private static final int UNKNOWN = EnoughServers.UNKNOWN, OUTSIDE = EnoughServers.OUTSIDE;
    private static final int[] FAR = {Integer.MIN_VALUE, Integer.MAX_VALUE};

    public static void main(String[] args) {
        windowsOneToSix();
        windowsOfAllSizes();
        noRoundsYet();
        eighteenAtMost();
        withoutMeasures();
        valuesAsTheyWere();
        fromLeastAllReady();
        noWantsAhead();
        noStepsAhead();
        nothingOfOtherTries();
        noMovesAhead();
        alone();
        sixtyServers();
        withoutAPool();
        numbersAsTheyAreNow();
        itsOwnWindowsAreNoMatter();
        coldOfTheHouse();
        forecastsOfItsOwn();
        undoneRoundsAreNotReplayed();
        costs();
        leastWindows();
        bestOfNothing();
        bestAsReplayed();
        refused();
        c.end("ReplayEdgesTest");
    }

    private static EnoughServers played(String text, int... loads) {
        EnoughServers x = Check.with(text);
        play(x, loads);
        return x;
    }

    private static void play(EnoughServers x, int... loads) {
        for (int value : loads) {
            x.load(0, 0, value);
            x.round();
        }
    }

    private static void replays(EnoughServers x, int u, int d, int... due) {
        for (int what = 0; what < due.length; what++) {
            c.due("replay(0, " + u + ", " + d + ", " + what + ")", x.replay(0, u, d, what), due[what]);
        }
    }

    private static void windowsOneToSix() {
        c.of("REPLAY of a SERVICE by windows u, d (1 to 6 each)");
        EnoughServers x = played("h60,1,0,0,2;s0,20,0,1,1,9,0,9,1;t1;", 3, 3);
        int[] outside = {0, -1, 7, 8, FAR[0], FAR[1]};
        for (int w : outside) {
            replays(x, w, 1, OUTSIDE, OUTSIDE, OUTSIDE);
            replays(x, 1, w, OUTSIDE, OUTSIDE, OUTSIDE);
        }
        for (int w = 1; w <= 6; w++) {
            replays(x, w, 1, 6, 3, 0);
            replays(x, 1, w, 6, 3, 0);
        }
    }

    /** Up from 1 to 9 behind u ROUNDS of 9, down from 9 to 1 behind d ROUNDS of 1. */
    private static void windowsOfAllSizes() {
        c.of("by windows u, d");
        EnoughServers up = played("h60,1,0,0,2;s1,20,0,1,1,9,0,9,1;t1;", 1, 9, 9, 9, 9, 9, 9, 9);
        EnoughServers down = played("h60,1,0,0,2;s1,20,0,1,1,9,0,9,1;t1;", 9, 1, 1, 1, 1, 1, 1, 1);
        for (int w = 1; w <= 6; w++) {
            for (int other = 1; other <= 6; other++) {
                replays(up, w, other, w + (8 - w) * 9, 8 * w, 0);
                replays(down, other, w, w * 9 + (8 - w), 8, 1);
            }
        }
    }

    private static void noRoundsYet() {
        c.of("by the last ROUNDS that were done");
        EnoughServers x = Check.with("h60,1,0,0,2;s4,20,0,1,1,9,0,9,1;t1;");
        x.load(0, 0, 9);
        replays(x, 1, 1, 0, 0, 0);
        x.round();
        replays(x, 1, 1, 9, 5, 0);
    }

    private static void eighteenAtMost() {
        c.of("18 at most");
        for (int rounds = 16; rounds <= 40; rounds++) {
            EnoughServers x = Check.with("h60,1,0,0,2;s0,20,0,1,1,9,0,9,1;t1;");
            play(x, 7);
            for (int i = 1; i < rounds; i++) play(x, 2);
            if (rounds <= 18) replays(x, 1, 1, 7 + 2 * (rounds - 1), 7, 1);
            else replays(x, 1, 1, 36, 2, 0);
        }
    }

    private static void withoutMeasures() {
        c.of("without MEASURES, too");
        for (int rounds = 0; rounds <= 20; rounds++) {
            EnoughServers x = Check.with("h60,1,0,0,2;s3,20,0,1,1,9,0,9,1;");
            Check.rounds(x, rounds);
            replays(x, 6, 6, 3 * Math.min(rounds, 18), 0, 0);
        }
    }

    private static void valuesAsTheyWere() {
        c.of("as they were, VALUES too");
        EnoughServers x = played("h60,1,0,0,2;s1,20,0,1,1,9,0,9,1;t1;", 4, -1, 0, 9);
        x.load(0, 0, 20);
        // 4; it MISSED: COUNT, 4; 0: LEAST, 1; 9.
        replays(x, 1, 1, 4 + 4 + 1 + 9, 3 + 8, 2);
        // By COUNT of the REPLAY, not of the ROUNDS as they went: ADD is 1 now.
        x.set(0, 5, 1);
        replays(x, 1, 1, 2 + 2 + 1 + 2, 3 + 8, 2);
    }

    private static void fromLeastAllReady() {
        c.of("from LEAST servers on, all READY");
        EnoughServers x = played("h60,6,0,0,2;s2,20,0,1,1,9,0,9,1;t1;", 9, 9);
        c.due("COUNT", x.service(0, 10), 9);
        replays(x, 1, 1, 18, 14, 0);
        x.set(0, 0, 9);
        replays(x, 1, 1, 18, 0, 0);
        x.set(0, 0, 0);
        replays(x, 1, 1, 18, 18, 0);
    }

    /** WANTS of ROUNDS that are replayed no more would hold it by a window of 6, were they known. */
    private static void noWantsAhead() {
        c.of("nothing done ahead");
        EnoughServers x = Check.with("h60,1,0,0,2;s0,20,0,1,1,9,0,9,1;t1;");
        play(x, 1, 1, 1, 1, 1, 1);
        for (int i = 0; i < 18; i++) play(x, 5);
        replays(x, 6, 1, 90, 5, 0);
        EnoughServers y = Check.with("h60,1,0,0,2;s0,20,0,1,1,9,0,9,1;t1;");
        play(y, 9, 9, 9, 9, 9, 9);
        for (int i = 0; i < 18; i++) play(y, 0);
        // COUNT is LEAST, 4, and would be no more than that by its own WANTS.
        y.set(0, 0, 4);
        replays(y, 1, 6, 72, 0, 0);
    }

    private static void noStepsAhead() {
        c.of("nothing done ahead");
        EnoughServers x = Check.with("h60,1,0,0,2;s0,20,0,1,1,9,0,9,4;t1;");
        for (int i = 0; i < 3; i++) play(x, 3 * i + 3);
        replays(x, 1, 1, 3 + 6 + 9, 9, 0);
        x.set(0, 5, 3);
        // GAINED is of the REPLAY's own ROUNDS: 3 at once, and no more within four.
        replays(x, 1, 1, 9, 3 + 3 + 6, 0);
        play(x, 9, 9);
        replays(x, 1, 1, 3 + 3 + 3 + 3 + 6, 3 + 3 + 6 + 6 + 6, 0);
    }

    /** What another REPLAY, or what else was tried, has given up does not count for this one's steps, windows, moves. */
    private static void nothingOfOtherTries() {
        c.of("nothing done ahead");
        String service = "s0,20,0,1,1,9,0,3,4;t1;";
        EnoughServers x = Check.with("h60,1,0,0,2;" + service + "s0,20,0,6,6,9,0,9,1;t1;");
        int[] first = {6, 3, 3, 3};
        int[] second = {9, 9, 6, 3};
        for (int i = 0; i < 4; i++) {
            x.load(1, 0, second[i]);
            play(x, first[i]);
        }
        c.due("SPENT of the other", x.replay(1, 1, 1, 0), 27);
        replays(x, 1, 1, 15, 6, 1);
        c.due("SPENT of the other", x.replay(1, 6, 6, 0), 36);
        replays(x, 6, 6, 24, 6, 0);
        x.ahead(50, 0);
        replays(x, 1, 1, 15, 6, 1);
        x.load(0, 0, 0);
        x.until(0, 20);
        replays(x, 1, 1, 15, 6, 1);
        c.due("SPENT of the other", x.replay(1, 1, 1, 0), 27);
    }

    private static void noMovesAhead() {
        c.of("nothing done ahead .. FLUTTERS (2)");
        // In the house it gave up in ROUND 0; of 19 ROUNDS the first is not replayed, and the second gets.
        EnoughServers x = Check.with("h60,1,0,0,2;s5,20,0,1,1,9,0,9,1;t1;");
        x.set(0, 0, 0);
        play(x, 2);
        for (int i = 0; i < 18; i++) play(x, 3);
        c.due("FLUTTERS", x.service(0, 15), 1);
        replays(x, 1, 1, 54, 3, 0);
    }

    private static void alone() {
        c.of("it alone in a house");
        EnoughServers x = Check.with("h6,1,0,0,2;s1,20,0,1,1,9,0,9,1;t1;s1,20,9,1,1,9,0,9,1;t1;");
        x.load(1, 0, 5);
        play(x, 4, 4, 4);
        c.due("COUNT in the house", x.service(0, 10), 1);
        replays(x, 1, 1, 12, 3, 0);
        c.due("of the other", x.replay(1, 1, 1, 0), 15);
        c.due("of the other", x.replay(1, 1, 1, 1), 4);
    }

    private static void sixtyServers() {
        c.of("of 60 servers");
        EnoughServers x = played("h1,1,0,0,2;s1,20,0,1,1,9,99,9,1;t1;", 20, 20, 20);
        c.due("COUNT in the house", x.service(0, 10), 1);
        replays(x, 1, 1, 10 + 20 + 20, 19 + 10, 0);
    }

    private static void withoutAPool() {
        c.of("without a pool");
        EnoughServers x = played("h60,3,9,3,2;s0,20,0,1,1,9,0,9,1;t1;", 5, 5, 5, 5);
        c.due("LACK in the house", x.service(0, 14), 5);
        replays(x, 1, 1, 20, 15, 0);
        EnoughServers y = played("h60,3,0,3,2;s0,20,0,1,1,9,0,9,1;t1;", 5, 5, 5, 5);
        replays(y, 1, 1, 20, 15, 0);
    }

    private static void numbersAsTheyAreNow() {
        c.of("its other numbers as they are now");
        EnoughServers x = played("h60,1,0,0,2;s1,20,0,1,1,9,0,9,1;t1;", 6, 6, 0, 0);
        replays(x, 1, 1, 6 + 6 + 1 + 1, 5, 1);
        x.set(0, 0, 2);
        replays(x, 1, 1, 6 + 6 + 2 + 2, 4, 1);
        x.set(0, 1, 5);
        replays(x, 1, 1, 5 + 5 + 2 + 2, 4 + 1, 1);
        x.set(0, 2, 9);
        replays(x, 1, 1, 5 + 5 + 2 + 2, 4 + 1, 1);
        x.set(0, 5, 2);
        replays(x, 1, 1, 4 + 5 + 2 + 2, 4 + 2, 1);
        x.set(0, 6, 99);
        replays(x, 1, 1, 4 + 5 + 2 + 2, 4 + 2, 1);
        x.set(0, 5, 0);
        x.set(0, 6, 50);
        replays(x, 1, 1, 3 + 5 + 2 + 2, 4 + 3, 1);
        x.set(0, 7, 1);
        replays(x, 1, 1, 3 + 5 + 4 + 3, 4 + 3, 1);
        x.set(0, 8, 2);
        replays(x, 1, 1, 3 + 3 + 2 + 2, 4 + 3, 1);
    }

    private static void itsOwnWindowsAreNoMatter() {
        c.of("REPLAY by u, d");
        EnoughServers x = played("h60,1,0,0,2;s0,20,0,6,6,9,0,9,1;t1;", 1, 6, 6, 0);
        int spent = x.replay(0, 1, 1, 0);
        c.due("SPENT", spent, 1 + 6 + 6);
        x.set(0, 3, 1);
        x.set(0, 4, 1);
        replays(x, 1, 1, 13, 1 + 5, 1);
        replays(x, 6, 6, 4, 1 + 5 + 5, 0);
        c.due("UP stays", x.service(0, 3), 1);
        c.due("DOWN stays", x.service(0, 4), 1);
    }

    private static void coldOfTheHouse() {
        c.of("it alone in a house of 60 servers, without a pool; its other numbers as they are now");
        for (int cold = 1; cold <= 6; cold++) {
            EnoughServers x = played("h60," + cold + ",0,0,2;s0,20,0,1,1,9,0,9,1;t1;", 2, 2, 2, 2, 2, 2, 2, 2);
            replays(x, 1, 1, 16, 2 * cold, 0);
        }
    }

    private static void forecastsOfItsOwn() {
        c.of("FORECASTS by what REPLAY has behind it");
        // SEASON 2, COLD 1: ROUND r foresees ROUND r and 1 by r - 1, r - 3, r - 5.
        EnoughServers x = played("h60,1,0,0,2;s0,20,0,1,1,9,0,9,1;f1;", 8, 0, 0, 0);
        replays(x, 1, 1, 8 + 8 + 0 + 4, 8 + 0 + 0 + 4, 2);
        // ROUND 0 is no more among the last 18: nothing is foreseen by it.
        EnoughServers y = Check.with("h60,1,0,0,2;s0,20,0,1,1,9,0,9,1;f1;");
        play(y, 8);
        for (int i = 0; i < 17; i++) play(y, 0);
        replays(y, 1, 1, 8 + 8 + 4 + 3, 8 + 4 + 3, 5);
        play(y, 0);
        replays(y, 1, 1, 0, 0, 0);
        // One that MISSED is not foreseen by, in the REPLAY as in the house.
        EnoughServers z = played("h60,1,0,0,2;s0,20,0,1,1,9,0,9,1;f1;", 8, 0, -1, 0);
        replays(z, 1, 1, 8 + 8 + 8 + 8, 8, 0);
    }

    private static void undoneRoundsAreNotReplayed() {
        c.of("the last ROUNDS that were done");
        EnoughServers x = played("h60,1,0,0,2;s0,20,0,1,1,9,0,9,1;t1;", 3, 5, 9);
        replays(x, 1, 1, 17, 3 + 2 + 4, 0);
        x.undo();
        replays(x, 1, 1, 8, 3 + 2, 0);
        // One of 19 is undone: the first is replayed again.
        EnoughServers y = Check.with("h60,1,0,0,2;s0,20,0,1,1,9,0,9,1;t1;");
        play(y, 7);
        for (int i = 0; i < 18; i++) play(y, 2);
        replays(y, 1, 1, 36, 2, 0);
        y.undo();
        replays(y, 1, 1, 41, 7, 1);
    }

    private static void best(String text, int due, int... loads) {
        EnoughServers x = played(text, loads);
        c.due("best(0)", x.best(0), due);
    }

    /** In each row another weight of SPENT, LACK or FLUTTERS, one more or one less, would have other windows. */
    private static void costs() {
        c.of("COSTS: SPENT, 5 times LACK, 3 times FLUTTERS, together.");
        String numbers = ",0,0,2;s0,20,0,1,1,9,99,9,1;t1;";
        // By 1, 1: 7, 5, 1; by 3, 1: 0, 7, 0. Both cost 35.
        best("h60,1" + numbers, 11, 0, 5, 2);
        // By 2, 1: 5, 6, 1 costs 38; by 1, 2: 11, 5, 1 costs 39.
        best("h60,2" + numbers, 21, 5, 0, 1);
        // By 1, 3: 9, 3, 0 costs 24; by 1, 2: 7, 3, 1 costs 25.
        best("h60,2" + numbers, 13, 3, 0, 1);
        // By 1, 1: 6, 5, 1; by 1, 3: 9, 5, 0. Both cost 34.
        best("h60,2" + numbers, 11, 3, 2, 1);
        // By 1, 3: 3, 1, 0 costs 8; by 1, 1: 1, 1, 1 costs 9.
        best("h60,3" + numbers, 13, 1, 0, 0);
        EnoughServers x = played("h60,2" + numbers, 5, 0, 1);
        replays(x, 2, 1, 5, 6, 1);
        replays(x, 1, 2, 11, 5, 1);
    }

    private static void leastWindows() {
        c.of("of several those with the least u, of several the least d: 10 times u, and d");
        // All are alike: the first.
        best("h60,1,0,0,2;s0,20,0,1,1,9,99,9,1;t1;", 11, 5, 5, 5);
        // A SERVICE that never can have another number of servers.
        best("h60,1,0,0,2;s4,4,0,1,1,9,99,9,1;t1;", 11, 9, 0, 9, 0);
        // Of all u only d matters: 13 to 66 with d of 3 and more are alike.
        EnoughServers x = played("h60,3,0,0,2;s0,20,0,1,1,9,99,9,1;t1;", 1, 0, 0);
        for (int u = 1; u <= 6; u++) {
            for (int d = 3; d <= 6; d++) replays(x, u, d, 3, 1, 0);
        }
        c.due("best(0)", x.best(0), 13);
        // A peak that only the longest window up passes by; d is no matter then.
        best("h60,6,0,0,2;s0,20,0,1,1,9,99,9,1;t1;", 61, 0, 9, 9, 9, 9, 9, 0);
        // A gap that only the longest window down bridges.
        best("h60,6,0,0,2;s0,20,0,1,1,9,99,9,1;t1;", 16, 9, 9, 9, 9, 9, 9, 9, 0, 0, 0, 0, 0, 9, 9);
    }

    private static void bestOfNothing() {
        c.of("Windows by which REPLAY COSTS least");
        best("h60,1,0,0,2;s0,20,0,6,6,9,99,9,1;t1;", 11);
        EnoughServers none = Check.with("h60,1,0,0,2;s3,20,0,6,6,9,99,9,1;");
        c.due("without ROUNDS", none.best(0), 11);
        Check.rounds(none, 20);
        c.due("without MEASURES", none.best(0), 11);
    }

    private static void bestAsReplayed() {
        c.of("Windows by which REPLAY COSTS least, of several those with the least u, of several the least d");
        int[][] runs = {{3, 9, 1, 7, 7, 2, 0, 8}, {0, 0, 6, 0, 0, 6, 0, 0}, {5, 4, 3, 2, 1, 0}, {1, 2, 3, 4, 5, 6}, {9, -1, -1, 2, -1, 8}};
        for (int[] run : runs) {
            for (int cold = 1; cold <= 6; cold++) {
                EnoughServers x = played("h60," + cold + ",0,0,2;s0,20,0,1,1,4,0,3,2;t1;", run);
                int windows = 0;
                int least = Integer.MAX_VALUE;
                for (int u = 6; u >= 1; u--) {
                    for (int d = 6; d >= 1; d--) {
                        int cost = x.replay(0, u, d, 0) + 5 * x.replay(0, u, d, 1) + 3 * x.replay(0, u, d, 2);
                        if (cost <= least) {
                            least = cost;
                            windows = 10 * u + d;
                        }
                    }
                }
                c.due("best(0)", x.best(0), windows);
            }
        }
    }

    private static void refused() {
        c.of("REPLAY by u, d: what = 0 SPENT, 1 LACK, 2 FLUTTERS. UNKNOWN, OUTSIDE.");
        EnoughServers x = played("h60,1,0,0,2;s0,20,0,1,1,9,0,9,1;t1;s0,20,0,1,1,9,0,9,1;", 3, 3);
        int[] services = {-1, 2, 3, 4, FAR[0], FAR[1]};
        for (int s : services) {
            c.due("replay(" + s + ", 1, 1, 0)", x.replay(s, 1, 1, 0), UNKNOWN);
            c.due("replay(" + s + ", 0, 1, 0)", x.replay(s, 0, 1, 0), UNKNOWN);
            c.due("replay(" + s + ", 1, 7, 0)", x.replay(s, 1, 7, 0), UNKNOWN);
            c.due("replay(" + s + ", 1, 1, 3)", x.replay(s, 1, 1, 3), UNKNOWN);
            c.due("best(" + s + ")", x.best(s), UNKNOWN);
        }
        int[] whats = {-1, -2, 3, 4, FAR[0], FAR[1]};
        for (int what : whats) c.due("replay(0, 1, 1, " + what + ")", x.replay(0, 1, 1, what), OUTSIDE);
        c.due("the last SERVICE", x.best(1), 11);
        c.due("the last SERVICE", x.replay(1, 6, 6, 2), 0);
    }
}
