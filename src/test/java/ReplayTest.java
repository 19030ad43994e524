/** Promises 19 and 20: replay, best; and section 3 of the terms. */
public final class ReplayTest {
    private static final Check c = new Check();
    private static final int UNKNOWN = EnoughServers.UNKNOWN, OUTSIDE = EnoughServers.OUTSIDE;

    public static void main(String[] args) {
        byHand();
        noRounds();
        lastEighteen();
        ownForecasts();
        withoutMeasures();
        numbersAsNow();
        missesAsTheyWere();
        ties();
        refusals();
        c.end("ReplayTest");
    }

    private static void play(EnoughServers x, int... loads) {
        for (int value : loads) {
            x.load(0, 0, value);
            x.round();
        }
    }

    private static void replays(EnoughServers x, int u, int d, int spent, int lack, int flutters) {
        String by = "by " + u + ", " + d;
        c.due("SPENT " + by, x.replay(0, u, d, 0), spent);
        c.due("LACK " + by, x.replay(0, u, d, 1), lack);
        c.due("FLUTTERS " + by, x.replay(0, u, d, 2), flutters);
    }

    /** The house is full and has a pool: REPLAY has neither. */
    private static void byHand() {
        EnoughServers x = Check.with("h3,2,3,1,2;s1,20,0,6,6,9,0,9,1;t1;s1,9,9,1,1,1,1,1,1;");
        play(x, 4, 4, 1, 4);
        replays(x, 1, 1, 13, 9, 2);
        replays(x, 1, 2, 16, 6, 0);
        replays(x, 2, 1, 10, 9, 1);
        replays(x, 6, 6, 16, 6, 0);
        c.due("46 is least by 1, 2", x.best(0), 12);
        c.due("windows are not told anew", x.service(0, 3), 6);
        c.due("nothing lacks", x.best(1), 11);
    }

    private static void noRounds() {
        EnoughServers x = Check.with("h9,2,3,1,2;s1,9,0,6,6,9,0,9,1;t1;");
        x.load(0, 0, 5);
        replays(x, 1, 1, 0, 0, 0);
        c.due("best()", x.best(0), 11);
    }

    private static void lastEighteen() {
        EnoughServers x = Check.with("h9,2,3,1,2;s1,9,0,1,1,9,0,9,1;t1;");
        play(x, 9, 9);
        for (int i = 0; i < 17; i++) play(x, 2);
        replays(x, 1, 1, 9 + 17 * 2, 8 + 1, 1);
        play(x, 2);
        replays(x, 1, 1, 36, 2, 0);
        x.undo();
        x.undo();
        replays(x, 1, 1, 9 + 17 * 2, 8 + 1, 1);
    }

    /** Round 0 had 7, and would be foreseen in round 1; but REPLAY begins with round 1. */
    private static void ownForecasts() {
        EnoughServers x = Check.with("h9,1,0,0,2;s1,9,0,1,1,9,0,9,1;f1;");
        play(x, 7);
        for (int i = 0; i < 18; i++) play(x, 1);
        replays(x, 1, 1, 18, 0, 0);
        EnoughServers y = Check.with("h9,1,0,0,2;s1,9,0,1,1,9,0,9,1;f1;");
        play(y, 5, 1, 1);
        // Round 1 foresees round 2 by round 0; round 2 foresees round 3 by round 1.
        replays(y, 1, 1, 5 + 5 + 1, 4, 1);
    }

    private static void withoutMeasures() {
        EnoughServers x = Check.with("h9,2,3,1,2;s2,9,0,1,1,9,0,9,1;");
        Check.rounds(x, 5);
        replays(x, 3, 4, 10, 0, 0);
        Check.rounds(x, 20);
        replays(x, 1, 1, 36, 0, 0);
        c.due("best()", x.best(0), 11);
    }

    private static void numbersAsNow() {
        EnoughServers x = Check.with("h9,1,0,0,2;s1,9,0,1,1,9,0,9,1;t1;");
        play(x, 6, 6);
        replays(x, 1, 1, 12, 5, 0);
        x.set(0, 0, 3);
        replays(x, 1, 1, 12, 3, 0);
        x.set(0, 1, 4);
        replays(x, 1, 1, 8, 3 + 2, 0);
        x.set(0, 1, 9);
        x.set(0, 5, 1);
        replays(x, 1, 1, 4 + 5, 3 + 2, 0);
        x.set(0, 8, 2);
        replays(x, 1, 1, 4 + 4, 3 + 2, 0);
        x.set(0, 6, 99);
        replays(x, 1, 1, 6 + 6, 3, 0);
    }

    private static void missesAsTheyWere() {
        EnoughServers x = Check.with("h9,1,0,0,2;s1,9,0,1,1,9,0,9,1;t1;");
        play(x, 4, -1, 2);
        x.load(0, 0, 9);
        replays(x, 1, 1, 4 + 4 + 2, 3, 1);
    }

    private static void ties() {
        EnoughServers x = Check.with("h60,1,0,0,2;s0,20,0,1,1,9,0,9,1;t1;");
        // 9 servers in one round that only a longer window up keeps from being got.
        play(x, 1, 9, 1, 1, 1);
        int least = Integer.MAX_VALUE;
        int best = 0;
        for (int u = 1; u <= 6; u++) {
            for (int d = 1; d <= 6; d++) {
                int costs = x.replay(0, u, d, 0) + 5 * x.replay(0, u, d, 1) + 3 * x.replay(0, u, d, 2);
                if (costs < least) {
                    least = costs;
                    best = 10 * u + d;
                }
            }
        }
        c.due("best()", x.best(0), best);
        c.due("by hand", x.best(0), 21);
        // By 2, 1: SPENT 5, LACK 1 and 8; by 1, 1: SPENT 13, LACK as much, FLUTTERS 1.
        replays(x, 2, 1, 5, 9, 0);
        replays(x, 1, 1, 13, 9, 1);
    }

    private static void refusals() {
        EnoughServers x = Check.with("h9,1,0,0,2;s1,9,0,1,1,9,0,9,1;t1;");
        play(x, 4, 5);
        c.due("no service", x.replay(1, 0, 0, 9), UNKNOWN);
        c.due("no service below", x.replay(-1, 1, 1, 0), UNKNOWN);
        c.due("u 0", x.replay(0, 0, 1, 0), OUTSIDE);
        c.due("u 7", x.replay(0, 7, 1, 0), OUTSIDE);
        c.due("d 0", x.replay(0, 1, 0, 0), OUTSIDE);
        c.due("d 7", x.replay(0, 1, 7, 0), OUTSIDE);
        c.due("what below", x.replay(0, 1, 1, -1), OUTSIDE);
        c.due("what above", x.replay(0, 1, 1, 3), OUTSIDE);
        c.due("best, no service", x.best(1), UNKNOWN);
        c.due("best, no service below", x.best(-1), UNKNOWN);
    }
}
