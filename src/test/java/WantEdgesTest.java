/** Section 2 of the terms up to the ROUND, edge by edge: VALUES, servers, WANTS, PAST, FORECAST; promise 15 with it. */
public final class WantEdgesTest {
    private static final Check c = new Check();
    private static final int UNKNOWN = EnoughServers.UNKNOWN, OUTSIDE = EnoughServers.OUTSIDE, NONE = EnoughServers.NONE;

    public static void main(String[] args) {
        values();
        readyOrStarting();
        total();
        foreseen();
        foreseenByCold();
        averageNear();
        averageOfReady();
        averageOfNoneReady();
        queueOfNothing();
        queue();
        misses();
        theGreatestOfItsMeasures();
        noMeasures();
        pastOfEighteen();
        missedRoundsArePast();
        forecastOfNothing();
        forecastBeforeTheFirstRound();
        forecastOfThreeSeasons();
        forecastOfRoundsToCome();
        forecastWithoutMissed();
        forecastCutUp();
        forecastBy();
        c.end("WantEdgesTest");
    }

    private static void play(EnoughServers x, int measure, int... values) {
        for (int value : values) {
            x.load(0, measure, value);
            x.round();
        }
    }

    private static void wants(EnoughServers x, int measure, int... valuesAndWants) {
        for (int i = 0; i < valuesAndWants.length; i += 2) {
            x.load(0, measure, valuesAndWants[i]);
            c.due("WANT by " + valuesAndWants[i], x.measure(0, measure, 3), valuesAndWants[i + 1]);
        }
    }

    private static void values() {
        c.of("Each MEASURE has a VALUE (0 to 9999), or MISSES.");
        EnoughServers x = Check.with("h60,2,0,0,3;s4,20,0,1,1,9,99,9,1;t10;t10;s0,9,0,1,1,1,1,1,1;t1;");
        c.due("it MISSES", x.measure(0, 0, 2), NONE);
        c.due("load 0", x.load(0, 0, 0), NONE);
        c.due("VALUE 0", x.measure(0, 0, 2), 0);
        c.due("load 9999", x.load(0, 0, 9999), 0);
        c.due("VALUE 9999", x.measure(0, 0, 2), 9999);
        c.due("load -1", x.load(0, 0, -1), 9999);
        c.due("it MISSES again", x.measure(0, 0, 2), NONE);
        c.due("-2", x.load(0, 0, -2), OUTSIDE);
        c.due("10000", x.load(0, 0, 10000), OUTSIDE);
        c.due("far below", x.load(0, 0, Integer.MIN_VALUE), OUTSIDE);
        c.due("far above", x.load(0, 0, Integer.MAX_VALUE), OUTSIDE);
        c.due("the next MEASURE has its own", x.measure(0, 1, 2), NONE);
        c.due("the other SERVICE's, too", x.measure(1, 0, 2), NONE);
    }

    private static void readyOrStarting() {
        c.of("A server is READY, or STARTING (in which ROUND it will be READY); COUNT of a SERVICE: all of both.");
        EnoughServers x = Check.with("h60,3,1,0,3;s2,20,0,1,1,9,0,9,1;t1;");
        c.due("COUNT", x.service(0, 10), 2);
        c.due("READY", x.service(0, 11), 2);
        play(x, 0, 5);
        c.due("COUNT", x.service(0, 10), 5);
        c.due("READY", x.service(0, 11), 2);
        c.due("in ROUND 1", x.starting(0, 1), 1);
        c.due("in ROUND 2", x.starting(0, 2), 0);
        c.due("in ROUND 3", x.starting(0, 3), 2);
        play(x, 0, 5);
        c.due("READY behind ROUND 1", x.service(0, 11), 3);
        play(x, 0, 5);
        c.due("READY behind ROUND 2", x.service(0, 11), 3);
        play(x, 0, 5);
        c.due("READY behind ROUND 3", x.service(0, 11), 5);
        c.due("COUNT", x.service(0, 10), 5);
    }

    private static void total() {
        c.of("A TOTAL MEASURE's WANT is VALUE by TARGET, CUT UP");
        wants(Check.with("h60,2,0,0,3;s4,20,0,1,1,9,99,9,1;t10;"), 0, 0, 0, 1, 1, 9, 1, 10, 1, 11, 2, 20, 2, 21, 3, 9999, 1000);
        wants(Check.with("h60,2,0,0,3;s4,20,0,1,1,9,99,9,1;t1;"), 0, 0, 0, 1, 1, 2, 2, 9998, 9998, 9999, 9999);
        wants(Check.with("h60,2,0,0,3;s4,20,0,1,1,9,99,9,1;t99;"), 0, 0, 0, 1, 1, 98, 1, 99, 1, 100, 2, 198, 2, 199, 3, 9999, 101);
    }

    private static void foreseen() {
        c.of("of a FORESEEN one (a TOTAL, too) the greater of VALUE and its FORECAST by COLD, by TARGET, CUT UP");
        EnoughServers x = Check.with("h60,1,0,0,2;s1,20,0,1,1,9,99,9,1;f1;f10;");
        wants(x, 0, 0, 0, 1, 1, 9999, 9999);
        for (int i = 0; i < 2; i++) {
            x.load(0, 0, 40);
            x.load(0, 1, 40);
            x.round();
        }
        c.due("FORECAST by COLD", x.forecast(0, 0, 1), 40);
        wants(x, 0, 0, 40, 39, 40, 40, 40, 41, 41, 9999, 9999);
        wants(x, 1, 0, 4, 40, 4, 41, 5);
    }

    /** VALUES 10, 20, .. 60 in ROUNDS 0 to 5, SEASON 6: ROUND 6 and COLD is as COLD, but ROUND 12 as ROUND 0. */
    private static void foreseenByCold() {
        c.of("its FORECAST by COLD");
        int[] due = {20, 30, 40, 50, 60, 10};
        for (int cold = 1; cold <= 6; cold++) {
            EnoughServers x = Check.with("h60," + cold + ",0,0,6;s1,20,0,1,1,9,99,9,1;f1;");
            play(x, 0, 10, 20, 30, 40, 50, 60);
            wants(x, 0, 0, due[cold - 1]);
            c.due("WANT of its SERVICE", x.would(0, 0), due[cold - 1]);
        }
    }

    /** 10 servers of which 1 is READY: near the TARGET all 10 are wanted, beside it one, or two. */
    private static EnoughServers tenOfThemOneReady(int target) {
        EnoughServers x = Check.with("h60,6,0,0,2;s1,20,0,1,1,9,0,9,1;a" + target + ";t1;");
        play(x, 1, 10);
        return x;
    }

    private static void averageNear() {
        c.of("of an AVERAGE one: COUNT, if ten times what VALUE and TARGET differ by is TARGET or less");
        wants(tenOfThemOneReady(1), 0, 0, 0, 1, 10, 2, 2);
        wants(tenOfThemOneReady(9), 0, 8, 1, 9, 10, 10, 2);
        wants(tenOfThemOneReady(10), 0, 8, 1, 9, 10, 10, 10, 11, 10, 12, 2);
        wants(tenOfThemOneReady(11), 0, 9, 1, 10, 10, 12, 10, 13, 2);
        wants(tenOfThemOneReady(19), 0, 17, 1, 18, 10, 20, 10, 21, 2);
        wants(tenOfThemOneReady(20), 0, 17, 1, 18, 10, 22, 10, 23, 2);
        wants(tenOfThemOneReady(99), 0, 89, 1, 90, 10, 108, 10, 109, 2);
    }

    private static void averageOfReady() {
        c.of("else how many are READY (1, if none are) times VALUE, by TARGET, CUT UP");
        EnoughServers x = Check.with("h60,1,0,0,2;s3,20,0,1,1,9,0,9,1;a20;t1;");
        wants(x, 0, 0, 0, 1, 1, 6, 1, 7, 2, 13, 2, 14, 3, 40, 6, 41, 7, 9999, 1500);
        play(x, 1, 12);
        // Those 9 that are STARTING will be READY behind step 1 of the ROUND to come.
        c.due("READY now", x.service(0, 11), 3);
        wants(x, 0, 0, 0, 1, 1, 5, 3, 30, 18, 9999, 6000);
        wants(tenOfThemOneReady(99), 0, 0, 0, 1, 1, 9999, 101);
        EnoughServers all = Check.with("h60,1,0,0,2;s9,20,0,1,1,9,99,9,1;a1;t1;");
        play(all, 1, 20, 20);
        wants(all, 0, 9999, 20 * 9999, 0, 0);
    }

    private static void averageOfNoneReady() {
        c.of("how many are READY (1, if none are)");
        EnoughServers x = Check.with("h60,3,0,0,2;s0,20,0,1,1,9,0,9,1;a20;t1;");
        wants(x, 0, 0, 0, 20, 0, 18, 0, 22, 0, 17, 1, 23, 2, 41, 3, 9999, 500, 0, 0);
        play(x, 1, 4);
        c.due("four that are STARTING", x.service(0, 10), 4);
        wants(x, 0, 0, 0, 20, 4, 17, 1, 23, 2, 81, 5);
        EnoughServers one = Check.with("h60,3,0,0,2;s1,20,0,1,1,9,0,9,1;a20;");
        wants(one, 0, 41, 3);
        EnoughServers two = Check.with("h60,3,0,0,2;s2,20,0,1,1,9,0,9,1;a20;");
        wants(two, 0, 41, 5);
    }

    private static void queueOfNothing() {
        c.of("of a QUEUE: COUNT less 1 (0 at least), if VALUE is 0");
        for (int count = 0; count <= 3; count++) {
            EnoughServers x = Check.with("h60,3,0,0,2;s" + count + ",20,0,1,1,9,0,9,1;q5;t1;");
            wants(x, 0, 0, Math.max(count - 1, 0), 1, count);
        }
        EnoughServers x = Check.with("h60,6,0,0,2;s1,20,0,1,1,9,0,9,1;q5;t1;");
        play(x, 1, 10);
        c.due("READY", x.service(0, 11), 1);
        wants(x, 0, 0, 9, 1, 10);
    }

    private static void queue() {
        c.of("else COUNT, and VALUE less 1 by TARGET (cut) besides");
        wants(Check.with("h60,3,0,0,2;s3,20,0,1,1,9,0,9,1;q5;"), 0, 1, 3, 5, 3, 6, 4, 10, 4, 11, 5, 9999, 3 + 1999);
        wants(Check.with("h60,3,0,0,2;s3,20,0,1,1,9,0,9,1;q1;"), 0, 1, 3, 2, 4, 3, 5, 9999, 3 + 9998);
        wants(Check.with("h60,3,0,0,2;s0,20,0,1,1,9,0,9,1;q99;"), 0, 1, 0, 99, 0, 100, 1, 198, 1, 199, 2, 9999, 100);
        EnoughServers x = Check.with("h60,6,0,0,2;s1,20,0,1,1,9,0,9,1;q5;t1;");
        play(x, 1, 10);
        wants(x, 0, 6, 11);
    }

    private static void misses() {
        c.of("of one that MISSES: COUNT");
        for (char sort : new char[] {'t', 'f', 'a', 'q'}) {
            EnoughServers none = Check.with("h60,6,0,0,2;s0,20,0,1,1,9,0,9,1;" + sort + "5;");
            c.due("none, " + sort, none.measure(0, 0, 3), 0);
            EnoughServers x = Check.with("h60,6,0,0,6;s1,20,0,1,1,9,0,9,1;" + sort + "5;t1;");
            c.due("never told, " + sort, x.measure(0, 0, 3), 1);
            x.load(0, 0, 5);
            play(x, 1, 10);
            c.due("READY", x.service(0, 11), 1);
            wants(x, 0, -1, 10);
        }
        // A FORECAST is there, but the MEASURE MISSES.
        EnoughServers f = Check.with("h60,1,0,0,2;s3,20,0,1,1,9,0,9,1;f10;");
        play(f, 0, 90, 90, 10);
        f.load(0, 0, -1);
        c.due("FORECAST", f.forecast(0, 0, 1), 50);
        c.due("WANT", f.measure(0, 0, 3), f.service(0, 10));
    }

    private static void theGreatestOfItsMeasures() {
        c.of("WANT, the greatest of its MEASURES (LEAST, if it has none)");
        for (int greatest = 0; greatest < 3; greatest++) {
            EnoughServers x = Check.with("h60,1,0,0,2;s2,20,0,1,1,9,0,9,1;t1;t1;t1;s0,20,0,1,1,9,0,9,1;t1;");
            x.load(1, 0, 19);
            for (int m = 0; m < 3; m++) x.load(0, m, m == greatest ? 7 : 5 - m);
            c.due("WANT by MEASURE " + greatest, x.would(0, 0), 7);
            for (int m = 0; m < 3; m++) x.load(0, m, 0);
            c.due("WANT of nothing, though LEAST is 2", x.would(0, 0), 0);
            x.load(0, greatest, -1);
            c.due("WANT of one that MISSES", x.would(0, 0), 2);
        }
    }

    private static void noMeasures() {
        c.of("(LEAST, if it has none)");
        EnoughServers x = Check.with("h60,1,0,0,2;s4,20,0,1,1,9,0,9,1;s0,20,0,1,1,9,0,9,1;");
        c.due("WANT is LEAST", x.would(0, 0), 4);
        c.due("WANT is LEAST 0", x.would(1, 0), 0);
        x.set(0, 0, 9);
        c.due("LEAST now", x.would(0, 0), 9);
        x.round();
        x.set(0, 0, 0);
        c.due("COUNT is 9, LEAST 0", x.would(0, 0), 0);
        c.due("no MEASURE to ask", x.forecast(0, 0, 0), UNKNOWN);
    }

    private static void pastOfEighteen() {
        c.of("PAST of a MEASURE: its VALUES in the last ROUNDS that were done (18 at most)");
        for (int rounds = 0; rounds <= 40; rounds++) {
            EnoughServers x = Check.with("h60,1,0,0,2;s1,20,0,1,1,9,0,9,1;t99;t98;");
            for (int i = 0; i < rounds; i++) play(x, 1, 100 + i);
            x.load(0, 1, 7777);
            int has = Math.min(rounds, 18);
            c.due("ROUNDS of its PAST behind " + rounds, x.measure(0, 1, 4), has);
            c.due("ROUNDS of the other's", x.measure(0, 0, 4), has);
            for (int k = 0; k < 18; k++) {
                c.due("VALUE " + k + " ahead behind " + rounds, x.measure(0, 1, 10 + k), k < has ? 100 + rounds - 1 - k : OUTSIDE);
                c.due("the other MISSED", x.measure(0, 0, 10 + k), k < has ? NONE : OUTSIDE);
            }
            c.due("no nineteenth", x.measure(0, 1, 28), OUTSIDE);
        }
    }

    private static void missedRoundsArePast() {
        c.of("those in which it MISSED, too");
        EnoughServers x = Check.with("h60,1,0,0,2;s1,20,0,1,1,9,0,9,1;t99;");
        play(x, 0, -1, 5, -1, -1);
        c.due("ROUNDS of its PAST", x.measure(0, 0, 4), 4);
        int[] due = {-1, -1, 5, -1};
        for (int k = 0; k < 4; k++) c.due("VALUE " + k + " ahead", x.measure(0, 0, 10 + k), due[k]);
        for (int i = 0; i < 15; i++) play(x, 0, -1);
        c.due("ROUNDS of its PAST", x.measure(0, 0, 4), 18);
        c.due("the oldest that is kept", x.measure(0, 0, 27), 5);
        play(x, 0, -1);
        c.due("it is forgotten", x.measure(0, 0, 27), -1);
    }

    private static void forecasts(EnoughServers x, int from, int... due) {
        for (int i = 0; i < due.length; i++) c.due("FORECAST by " + (from + i), x.forecast(0, 0, from + i), due[i]);
    }

    private static void forecastOfNothing() {
        c.of("0, if there is none");
        for (int season = 2; season <= 6; season++) {
            EnoughServers x = Check.with("h60,1,0,0," + season + ";s1,20,0,1,1,9,0,9,1;t9;");
            x.load(0, 0, 77);
            forecasts(x, 0, 0, 0, 0, 0, 0, 0, 0, 0, 0, 0, 0, 0, 0);
            for (int i = 0; i < 18; i++) play(x, 0, -1);
            x.load(0, 0, 77);
            forecasts(x, 0, 0, 0, 0, 0, 0, 0, 0, 0, 0, 0, 0, 0, 0);
        }
    }

    private static void forecastBeforeTheFirstRound() {
        c.of("as far as they are in its PAST");
        for (int season = 2; season <= 6; season++) {
            EnoughServers x = Check.with("h60,1,0,0," + season + ";s1,20,0,1,1,9,0,9,1;t99;");
            for (int i = 0; i < season - 1; i++) play(x, 0, 50 + i);
            forecasts(x, 0, 0, 50);
            play(x, 0, 50 + season - 1);
            forecasts(x, 0, 50, 51);
        }
        // 40 ROUNDS: nothing of those that are forgotten.
        EnoughServers old = Check.with("h60,1,0,0,6;s1,20,0,1,1,9,0,9,1;t99;");
        for (int i = 0; i < 40; i++) play(old, 0, i < 22 ? 9999 : 10);
        forecasts(old, 0, 10, 10, 10, 10, 10, 10, 10, 10, 10, 10, 10, 10, 10);
        EnoughServers edge = Check.with("h60,1,0,0,6;s1,20,0,1,1,9,0,9,1;t99;");
        for (int i = 0; i < 18; i++) play(edge, 0, i == 0 ? 100 : 10);
        forecasts(edge, 0, 40, 10);
    }

    /** The VALUE of ROUND r is a power of two's worth: a sum tells which ROUNDS are in it. */
    private static void forecastOfThreeSeasons() {
        c.of("of the VALUES that it had SEASON, twice SEASON, three times SEASON ROUNDS ahead of ROUND R and h");
        EnoughServers x = Check.with("h60,1,0,0,2;s1,20,0,1,1,9,0,9,1;t99;");
        play(x, 0, 6000, 6000, 300, 600, 30, 60, 3, 6);
        // R is 8: by 0 ROUNDS 6, 4, 2 (not 0); by 1 ROUNDS 7, 5, 3 (not 1).
        forecasts(x, 0, 111, 222, 17, 33, 3, 6, 0);
        EnoughServers six = Check.with("h60,1,0,0,6;s1,20,0,1,1,9,0,9,1;t99;");
        for (int i = 0; i < 24; i++) play(six, 0, i == 0 ? 9000 : i == 6 ? 300 : i == 12 ? 30 : i == 18 ? 3 : 0);
        // R is 24: by 0 ROUNDS 18, 12, 6; by 6 ROUNDS 18, 12; by 12 ROUND 18.
        forecasts(six, 0, 111, 0, 0, 0, 0, 0, 17, 0, 0, 0, 0, 0, 3);
    }

    private static void forecastOfRoundsToCome() {
        c.of("(R the next one to be done), as far as they are in its PAST");
        EnoughServers x = Check.with("h60,1,0,0,2;s1,20,0,1,1,9,0,9,1;t99;");
        play(x, 0, 1, 2, 4, 8);
        x.load(0, 0, 9999);
        // R is 4; by 2 ROUND 4 itself is not past, though its VALUE is told: ROUNDS 2 and 0 are left.
        forecasts(x, 0, 3, 5, 3, 5, 4, 8, 0, 0, 0, 0, 0, 0, 0);
    }

    private static void forecastWithoutMissed() {
        c.of("and it did not MISS");
        EnoughServers x = Check.with("h60,1,0,0,2;s1,20,0,1,1,9,0,9,1;t99;");
        play(x, 0, 90, 0, -1, 0, 30, -1);
        // By 0 ROUNDS 4, (2 MISSED), 0; by 1 ROUNDS (5 MISSED), 3, 1: VALUES of 0 are VALUES.
        forecasts(x, 0, 60, 0, 30, 0, 30, 0);
        play(x, 0, 0);
        // R is 7: by 0 ROUNDS (5 MISSED), 3, 1; by 1 ROUNDS 6, 4, (2 MISSED).
        forecasts(x, 0, 0, 15);
        // R is 20, SEASON 6: by 0 ROUNDS 14, 8, 2, of which one MISSED; or one that is not among them.
        int[] missed = {14, 8, 2, 15, 13, 9, 7, 6, 0, 1, 3, 19};
        int[] due = {5, 8, 11, 8, 8, 8, 8, 8, 8, 8, 8, 8};
        for (int i = 0; i < missed.length; i++) {
            EnoughServers far = Check.with("h60,1,0,0,6;s1,20,0,1,1,9,0,9,1;t99;");
            for (int r = 0; r < 20; r++) play(far, 0, r == missed[i] ? -1 : r);
            forecasts(far, 0, due[i]);
        }
        EnoughServers zero = Check.with("h60,1,0,0,2;s1,20,0,1,1,9,0,9,1;t99;");
        play(zero, 0, 9, 9, 0, 9, 0, 9);
        forecasts(zero, 0, 3);
    }

    private static void forecastCutUp() {
        c.of("their sum by how many they are, CUT UP");
        int[][] rows = {{9, 9, 9, 9}, {9, 9, 10, 10}, {9, 10, 10, 10}, {10, 10, 10, 10}, {0, 0, 1, 1}, {0, 0, 0, 0},
            {9999, 9999, 9999, 9999}, {9999, 9999, 9998, 9999}};
        for (int[] row : rows) {
            EnoughServers x = Check.with("h60,1,0,0,2;s1,20,0,1,1,9,0,9,1;t99;");
            play(x, 0, row[0], 5, row[1], 5, row[2], 5);
            forecasts(x, 0, row[3]);
        }
        EnoughServers two = Check.with("h60,1,0,0,2;s1,20,0,1,1,9,0,9,1;t99;");
        play(two, 0, 4, 4, 7, 6);
        forecasts(two, 0, 6, 5);
    }

    private static void forecastBy() {
        c.of("FORECAST of a MEASURE by h (0 to 12). UNKNOWN, OUTSIDE.");
        EnoughServers x = Check.with("h60,1,0,0,6;s1,20,0,1,1,9,0,9,1;t99;s1,20,0,1,1,9,0,9,1;");
        play(x, 0, 1, 2, 3, 4, 5, 6);
        forecasts(x, -1, OUTSIDE, 1, 2, 3, 4, 5, 6, 1, 2, 3, 4, 5, 6, 1, OUTSIDE);
        c.due("far below", x.forecast(0, 0, Integer.MIN_VALUE), OUTSIDE);
        c.due("far above", x.forecast(0, 0, Integer.MAX_VALUE), OUTSIDE);
        c.due("no MEASURE 1", x.forecast(0, 1, 0), UNKNOWN);
        c.due("no MEASURE 1, by 13", x.forecast(0, 1, 13), UNKNOWN);
        c.due("no MEASURE -1", x.forecast(0, -1, -1), UNKNOWN);
        c.due("none at all", x.forecast(1, 0, 0), UNKNOWN);
        c.due("no SERVICE 2", x.forecast(2, 0, 0), UNKNOWN);
        c.due("no SERVICE -1", x.forecast(-1, 0, 13), UNKNOWN);
    }
}
