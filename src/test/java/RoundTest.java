/** Promise 7: round, and section 2 of the terms behind it: WANTS, windows, steps, edges, gifts, sums. */
public final class RoundTest {
    private static final Check c = new Check();

    public static void main(String[] args) {
        wantsByKind();
        wantsOfNone();
        wantsForeseen();
        windows();
        stepsByNumbersAndPercents();
        stepsThatWouldGoBack();
        edges();
        givingUp();
        gettingByRankAndNumber();
        gettingByLack();
        coldStarts();
        thePool();
        sums();
        flutters();
        c.end("RoundTest");
    }

    private static void wants(EnoughServers x, int measure, int value, int want) {
        x.load(0, measure, value);
        c.due("WANT of measure " + measure + " by " + value, x.measure(0, measure, 3), want);
        x.undo();
    }

    private static void wantsByKind() {
        EnoughServers x = Check.with("h60,2,0,0,3;s4,20,0,1,1,9,99,9,1;t10;a20;q5;");
        int[][] rows = {
            {0, 0, 0}, {0, 1, 1}, {0, 10, 1}, {0, 11, 2}, {0, 9999, 1000}, {0, -1, 4},
            {1, 18, 4}, {1, 22, 4}, {1, 20, 4}, {1, 17, 4}, {1, 15, 3}, {1, 10, 2}, {1, 0, 0}, {1, 23, 5}, {1, -1, 4},
            {1, 9999, 2000}, {2, 0, 3}, {2, 1, 4}, {2, 5, 4}, {2, 6, 5}, {2, 11, 6}, {2, 9999, 2003}, {2, -1, 4}};
        for (int[] row : rows) wants(x, row[0], row[1], row[2]);
        x.load(0, 0, 11);
        x.load(0, 1, 10);
        x.load(0, 2, 0);
        c.due("the worst is the queue", x.would(0, 0), 3);
        x.load(0, 0, 51);
        c.due("the worst is the total", x.would(0, 0), 6);
        x.load(0, 1, 40);
        c.due("the worst is the average", x.would(0, 0), 8);
        c.due("round() answers all servers", x.round(), 8);
    }

    private static void wantsOfNone() {
        EnoughServers x = Check.with("h60,2,0,0,3;s0,20,0,1,1,9,99,9,1;a20;q5;s3,9,0,1,1,9,0,9,1;");
        int[][] rows = {{0, 50, 3}, {0, 20, 0}, {0, 22, 0}, {0, 23, 2}, {1, 0, 0}, {1, 1, 0}, {1, 6, 1}, {1, -1, 0}};
        for (int[] row : rows) wants(x, row[0], row[1], row[2]);
        c.due("without measures it wants LEAST", x.would(1, 0), 3);
        x.set(1, 0, 5);
        c.due("LEAST as it is now", x.would(1, 0), 5);
        c.due("round()", x.round(), 5);
        x.set(1, 0, 1);
        c.due("LEAST is less", x.would(1, 0), 1);
        c.due("round()", x.round(), 1);
    }

    private static void wantsForeseen() {
        EnoughServers x = Check.with("h60,2,0,0,3;s1,20,0,1,1,9,99,9,1;f10;t10;");
        int[] loads = {30, 5, 5, 5};
        for (int value : loads) {
            x.load(0, 0, value);
            x.load(0, 1, value);
            x.round();
        }
        c.due("(5 and 30) by 2, cut up", x.forecast(0, 0, 2), 18);
        c.due("foreseen", x.measure(0, 0, 3), 2);
        c.due("a total does not foresee", x.measure(0, 1, 3), 1);
        x.load(0, 0, 25);
        c.due("the greater one is now", x.measure(0, 0, 3), 3);
        x.load(0, 0, -1);
        c.due("it misses", x.measure(0, 0, 3), x.service(0, 10));
    }

    private static void next(EnoughServers x, int value, int steady, int count) {
        x.load(0, 0, value);
        c.due("STEADY by " + value, x.would(0, 1), steady);
        c.due("round() by " + value, x.round(), count);
    }

    private static void windows() {
        EnoughServers x = Check.with("h60,1,0,0,2;s1,20,0,3,2,9,99,9,1;t1;");
        next(x, 5, 5, 5);
        next(x, 8, 5, 5);
        next(x, 9, 5, 5);
        next(x, 7, 7, 7);
        next(x, 3, 7, 7);
        next(x, 2, 3, 3);
        next(x, 9, 3, 3);
        x.set(0, 3, 1);
        next(x, 9, 9, 9);
        x.set(0, 4, 6);
        for (int i = 0; i < 5; i++) next(x, 1, 9, 9);
        next(x, 4, 4, 4);
        x.set(0, 3, 6);
        for (int i = 0; i < 4; i++) next(x, 10, 4, 4);
        next(x, 10, 4, 4);
        next(x, 11, 10, 10);
    }

    private static void step(EnoughServers x, int bound) {
        c.due("BOUND", x.would(0, 2), bound);
        c.due("round()", x.round(), bound);
    }

    private static void stepsByNumbersAndPercents() {
        EnoughServers x = Check.with("h60,1,0,0,2;s4,20,0,1,1,2,50,1,3;t1;");
        x.load(0, 0, 20);
        int[] up = {6, 6, 6, 9, 9, 9, 14};
        for (int bound : up) step(x, bound);
        x.load(0, 0, 0);
        int[] down = {13, 13, 13, 12, 12, 12, 11};
        for (int bound : down) step(x, bound);
        x.set(0, 7, 0);
        for (int i = 0; i < 3; i++) step(x, 11);
        x.set(0, 7, 9);
        x.set(0, 8, 1);
        c.due("BOUND", x.would(0, 2), 2);
        c.due("round(), by LEAST", x.round(), 4);
    }

    private static void stepsThatWouldGoBack() {
        EnoughServers x = Check.with("h60,1,0,0,2;s0,20,0,1,1,9,0,9,4;t1;");
        x.load(0, 0, 9);
        step(x, 9);
        x.set(0, 5, 0);
        x.load(0, 0, 12);
        step(x, 9);
        x.load(0, 0, 1);
        step(x, 1);
        x.load(0, 0, 12);
        x.set(0, 5, 3);
        // 9 GAINED of 1: b is 0, not -8.
        step(x, 3);
        x.set(0, 7, 2);
        x.load(0, 0, 0);
        // 8 LOST, 2 may be: FLOOR is above COUNT.
        step(x, 3);
    }

    private static void edges() {
        EnoughServers x = Check.with("h60,1,0,0,2;s2,5,0,1,1,9,0,0,1;t1;");
        x.load(0, 0, 9);
        c.due("BOUND", x.would(0, 2), 9);
        c.due("MOST", x.would(0, 3), 5);
        c.due("round()", x.round(), 5);
        x.set(0, 1, 3);
        x.load(0, 0, 0);
        c.due("no DROP", x.would(0, 2), 5);
        c.due("but MOST", x.would(0, 3), 3);
        c.due("round()", x.round(), 3);
        x.set(0, 1, 20);
        x.set(0, 0, 8);
        c.due("LEAST", x.would(0, 3), 8);
        c.due("round()", x.round(), 8);
        c.due("these are STARTING", x.service(0, 11), 3);
    }

    private static void givingUp() {
        EnoughServers x = Check.with("h20,4,1,0,2;s2,20,0,1,1,9,0,9,1;t1;");
        x.load(0, 0, 7);
        c.due("2 and 5", x.round(), 7);
        c.due("of the pool", x.starting(0, 1), 1);
        c.due("cold", x.starting(0, 4), 4);
        x.load(0, 0, 9);
        c.due("and 2", x.round(), 9);
        c.due("cold", x.starting(0, 5), 2);
        x.load(0, 0, 6);
        c.due("less 3", x.round(), 6);
        c.due("the last first", x.starting(0, 5), 0);
        c.due("then the one before", x.starting(0, 4), 3);
        c.due("READY", x.service(0, 11), 3);
        x.load(0, 0, 2);
        c.due("less 4", x.round(), 2);
        c.due("all that were starting", x.service(0, 12), -1);
        c.due("and a READY one", x.service(0, 11), 2);
    }

    private static void gettingByRankAndNumber() {
        EnoughServers x = Check.with(
            "h6,3,2,1,4;s0,9,2,1,1,9,0,9,1;t1;s0,9,5,1,1,9,0,9,1;t1;s0,9,2,1,1,9,0,9,1;t1;");
        x.load(0, 0, 3);
        x.load(1, 0, 3);
        x.load(2, 0, 2);
        c.due("the higher RANK", x.would(1, 5), 0);
        c.due("the lesser number", x.would(0, 5), 1);
        c.due("gets none, has a place", x.would(2, 5), 2);
        c.due("held by the house", x.why(2, 0), 4);
        c.due("not held", x.why(0, 0), -1);
        c.due("round()", x.round(), 6);
        c.due("service 0", x.service(0, 10), 3);
        c.due("service 1", x.service(1, 10), 3);
        c.due("service 2", x.service(2, 10), 0);
        c.due("the pool goes to the first", x.starting(1, 1), 2);
        c.due("then cold", x.starting(1, 3), 1);
        c.due("all cold", x.starting(0, 3), 3);
        c.due("the pool refills", x.count(3), 1);
        x.load(1, 0, 0);
        c.due("no place", x.would(1, 5), -1);
        c.due("what one gives up another gets", x.round(), 5);
        c.due("service 2", x.service(2, 10), 2);
        c.due("one of the pool", x.starting(2, 2), 1);
        c.due("one cold", x.starting(2, 4), 1);
    }

    private static void gettingByLack() {
        EnoughServers x = Check.with(
            "h7,1,0,0,4;s1,9,4,1,1,9,0,9,1;t1;s2,9,4,1,1,9,0,9,1;t1;s0,9,3,1,1,9,0,9,1;t1;");
        x.load(0, 0, 3);
        x.load(1, 0, 7);
        x.load(2, 0, 1);
        c.due("2 of 7 is less", x.would(1, 5), 0);
        c.due("1 of 3 is more", x.would(0, 5), 1);
        c.due("a lower RANK is last", x.would(2, 5), 2);
        c.due("as there are", x.would(1, 4), 6);
        x.load(1, 0, 6);
        c.due("2 of 6 is as 1 of 3: the lesser number", x.would(0, 5), 0);
        c.due("2 of 6", x.would(1, 5), 1);
        c.due("round()", x.round(), 7);
        c.due("as it lacks", x.service(0, 10), 3);
        c.due("as there are", x.service(1, 10), 4);
        c.due("none", x.service(2, 10), 0);
    }

    private static void coldStarts() {
        for (int cold = 1; cold <= 6; cold++) {
            EnoughServers x = Check.with("h20," + cold + ",0,0,2;s1,9,0,1,1,9,0,9,1;t1;");
            x.load(0, 0, 4);
            x.round();
            c.due("next one READY", x.service(0, 12), cold);
            for (int r = 1; r <= 7; r++) c.due("starting in " + r, x.starting(0, r), r == cold ? 3 : 0);
            for (int r = 1; r <= cold; r++) {
                c.due("not READY yet", x.service(0, 11), 1);
                x.round();
            }
            c.due("READY behind step 1 of that round", x.service(0, 11), 4);
            c.due("none is STARTING", x.service(0, 12), -1);
        }
    }

    private static void thePool() {
        EnoughServers x = Check.with("h40,6,5,2,2;s0,20,0,1,1,3,0,9,1;t1;");
        x.load(0, 0, 20);
        int[] pool = {4, 3, 2, 2, 2, 2, 2, 4, 5};
        // 3 a round are got till there are 20; from the fourth round on the pool has fewer than that.
        int[] warm = {3, 3, 3, 2, 2, 2, 2, 0, 0};
        for (int i = 0; i < pool.length; i++) {
            x.round();
            c.due("pool behind round " + i, x.count(3), pool[i]);
            c.due("warm ones of round " + i, x.starting(0, i + 1) - coldOnesOf(i + 1, warm), warm[i]);
        }
    }

    /** Cold ones that round r - 6 had started, of 3 (2 in the seventh round, none behind it). */
    private static int coldOnesOf(int r, int[] warm) {
        int from = r - 6;
        return from < 0 ? 0 : (from < 6 ? 3 : from == 6 ? 2 : 0) - warm[from];
    }

    private static void sums() {
        EnoughServers x = Check.with("h20,2,0,0,2;s1,20,0,1,1,9,0,9,1;t1;s2,9,0,1,1,1,1,1,1;");
        x.load(0, 0, 4);
        int[] spent = {4, 8, 12};
        int[] lack = {3, 6, 6};
        for (int i = 0; i < 3; i++) {
            x.round();
            c.due("SPENT", x.service(0, 13), spent[i]);
            c.due("LACK", x.service(0, 14), lack[i]);
            c.due("SPENT of the other", x.service(1, 13), 2 * (i + 1));
            c.due("LACK of the other", x.service(1, 14), 0);
        }
        x.load(0, 0, 1);
        x.round();
        c.due("SPENT by what it has behind the round", x.service(0, 13), 13);
        c.due("more than it wants is no LACK", x.service(0, 14), 6);
        x.load(0, 0, 90);
        x.round();
        c.due("LACK counts what no MOST gives", x.service(0, 14), 6 + 89);
    }

    private static void flutters() {
        EnoughServers x = Check.with("h20,1,0,0,2;s0,20,0,1,1,9,0,9,1;t1;");
        int[] loads = {2, 4, 4, 3, 3, 2, 2, 2, 5, 5, 6, 0};
        int[] flutters = {0, 0, 0, 1, 1, 1, 1, 1, 2, 2, 2, 3};
        for (int i = 0; i < loads.length; i++) {
            x.load(0, 0, loads[i]);
            x.round();
            c.due("FLUTTERS behind round " + i, x.service(0, 15), flutters[i]);
        }
        EnoughServers y = Check.with("h4,1,0,0,2;s0,9,0,1,1,9,0,9,1;t1;s0,9,5,1,1,9,0,9,1;t1;");
        y.load(0, 0, 3);
        y.round();
        y.load(0, 0, 2);
        y.load(1, 0, 2);
        y.round();
        c.due("it gave one up", y.service(0, 15), 1);
        y.load(0, 0, 4);
        y.round();
        c.due("who gets none does not flutter", y.service(0, 15), 1);
        c.due("all are given", y.count(2), 4);
        c.due("two", y.service(0, 10), 2);
    }
}
