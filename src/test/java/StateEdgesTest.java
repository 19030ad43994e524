/** Promises 9 to 12, edge by edge: service, measure, starting, count. */
public final class StateEdgesTest {
    private static final Check c = new Check();
    private static final int UNKNOWN = EnoughServers.UNKNOWN, OUTSIDE = EnoughServers.OUTSIDE, NONE = EnoughServers.NONE;
    private static final int[] FAR = {Integer.MIN_VALUE, Integer.MAX_VALUE};
    private static final String TWO = "h20,5,2,1,4;s3,9,8,1,2,7,6,9,4;t5;q7;s1,4,0,1,1,1,1,1,1;";

    public static void main(String[] args) {
        numbersOfAService();
        measuresOfAService();
        theNextThatIsStarting();
        theNextIsInRItself();
        sumsOfTheRoundsDone();
        serviceWhat();
        serviceUnknown();
        kindTargetValue();
        wantToCome();
        roundsOfThePast();
        valueInARound();
        measureWhat();
        measureUnknown();
        startingInRounds();
        startingOutside();
        startingUnknown();
        counts();
        countOfAct();
        bytesWithoutAHouse();
        countWhat();
        c.end("StateEdgesTest");
    }

    private static void numbersOfAService() {
        c.of("what = 0 to 8 as which in set()");
        EnoughServers x = Check.with(TWO);
        int[] first = {3, 9, 8, 1, 2, 7, 6, 9, 4};
        int[] second = {1, 4, 0, 1, 1, 1, 1, 1, 1};
        for (int i = 0; i < 9; i++) {
            c.due("service(0, " + i + ")", x.service(0, i), first[i]);
            c.due("service(1, " + i + ")", x.service(1, i), second[i]);
        }
        x.set(0, 6, 99);
        c.due("told anew", x.service(0, 6), 99);
        x.round();
        c.due("a ROUND changes none", x.service(0, 6), 99);
        x.undo();
        x.undo();
        c.due("undone", x.service(0, 6), 6);
    }

    private static void measuresOfAService() {
        c.of("9 MEASURES, 10 COUNT, 11 READY");
        EnoughServers x = Check.with("h20,5,2,1,4;s3,9,8,1,2,7,6,9,4;s0,9,0,1,1,1,1,1,1;t1;f1;q1;");
        int[][] due = {{0, 3, 3}, {3, 0, 0}};
        for (int s = 0; s < 2; s++) {
            for (int i = 0; i < 3; i++) c.due("service(" + s + ", " + (9 + i) + ")", x.service(s, 9 + i), due[s][i]);
        }
    }

    private static void theNextThatIsStarting() {
        c.of("12 the ROUND in which the next one that is STARTING will be READY (NONE)");
        EnoughServers x = Check.with(TWO);
        c.due("NONE", x.service(0, 12), NONE);
        x.load(0, 1, 0);
        x.load(0, 0, 35);
        x.round();
        // 2 of the pool in ROUND 1, 2 in ROUND 5.
        c.due("the warm ones", x.service(0, 12), 1);
        c.due("none of the other", x.service(1, 12), NONE);
        x.round();
        for (int r = 2; r <= 5; r++) {
            c.due("the cold ones, ahead of " + r, x.service(0, 12), 5);
            x.round();
        }
        c.due("NONE again", x.service(0, 12), NONE);
        // COLD 6 is the farthest.
        EnoughServers far = Check.with("h20,6,0,0,4;s0,9,0,1,1,9,0,9,1;t1;");
        far.load(0, 0, 1);
        far.round();
        for (int r = 1; r <= 6; r++) {
            c.due("ahead of " + r, far.service(0, 12), 6);
            far.round();
        }
        c.due("READY", far.service(0, 12), NONE);
    }

    private static void theNextIsInRItself() {
        c.of("the next one that is STARTING");
        EnoughServers x = Check.with("h20,1,0,0,4;s0,9,0,1,1,9,0,9,1;t1;");
        for (int r = 0; r < 5; r++) {
            x.load(0, 0, r + 1);
            x.round();
            c.due("R", x.count(0), r + 1);
            c.due("in R", x.service(0, 12), r + 1);
            c.due("READY, without it", x.service(0, 11), r);
            c.due("COUNT, with it", x.service(0, 10), r + 1);
        }
    }

    private static void sumsOfTheRoundsDone() {
        c.of("13 SPENT, 14 LACK, 15 FLUTTERS, all of the ROUNDS done");
        EnoughServers x = Check.with("h20,1,0,0,4;s0,9,0,1,1,9,0,9,1;t1;");
        for (int i = 13; i <= 15; i++) c.due("service(0, " + i + ")", x.service(0, i), 0);
        // 30 ROUNDS, more than a PAST has: 2 and 1 by turns.
        for (int r = 0; r < 30; r++) {
            x.load(0, 0, 2 - r % 2);
            x.round();
        }
        c.due("SPENT", x.service(0, 13), 45);
        c.due("LACK", x.service(0, 14), 2 + 14);
        c.due("FLUTTERS", x.service(0, 15), 29);
        x.undo();
        c.due("SPENT of 29", x.service(0, 13), 44);
        c.due("FLUTTERS of 29", x.service(0, 15), 28);
    }

    private static void serviceWhat() {
        c.of("service .. OUTSIDE");
        EnoughServers x = Check.with(TWO);
        int[] whats = {-1, -2, 16, 17};
        for (int what : whats) c.due("service(0, " + what + ")", x.service(0, what), OUTSIDE);
        for (int what : FAR) c.due("service(0, " + what + ")", x.service(0, what), OUTSIDE);
        c.due("service(1, 16)", x.service(1, 16), OUTSIDE);
    }

    private static void serviceUnknown() {
        c.of("service .. UNKNOWN");
        EnoughServers x = Check.with(TWO);
        int[] services = {-1, 2, 3, 4, FAR[0], FAR[1]};
        for (int s : services) {
            c.due("service(" + s + ", 0)", x.service(s, 0), UNKNOWN);
            c.due("service(" + s + ", 16)", x.service(s, 16), UNKNOWN);
        }
    }

    private static void kindTargetValue() {
        c.of("what = 0 KIND, 1 TARGET, 2 VALUE (NONE)");
        EnoughServers x = Check.with("h20,5,2,1,4;s3,9,8,1,2,7,6,9,4;t1;f98;a99;s1,4,0,1,1,1,1,1,1;q2;");
        int[][] due = {{0, 0, 1, 1}, {0, 1, 2, 98}, {0, 2, 3, 99}, {1, 0, 4, 2}};
        for (int[] row : due) {
            c.due("KIND", x.measure(row[0], row[1], 0), row[2]);
            c.due("TARGET", x.measure(row[0], row[1], 1), row[3]);
            c.due("VALUE", x.measure(row[0], row[1], 2), NONE);
        }
        x.load(1, 0, 9999);
        c.due("VALUE", x.measure(1, 0, 2), 9999);
        x.round();
        c.due("VALUE stays behind a ROUND", x.measure(1, 0, 2), 9999);
        x.load(1, 0, -1);
        c.due("VALUE", x.measure(1, 0, 2), NONE);
    }

    private static void wantToCome() {
        c.of("3 its WANT in the ROUND to come");
        EnoughServers x = Check.with("h20,1,0,0,4;s1,9,8,1,1,9,0,9,1;a10;t1;");
        x.load(0, 0, 30);
        x.load(0, 1, 4);
        c.due("of the AVERAGE", x.measure(0, 0, 3), 3);
        c.due("of the TOTAL", x.measure(0, 1, 3), 4);
        x.round();
        c.due("4 will be READY", x.measure(0, 0, 3), 12);
        c.due("as would() says", x.would(0, 0), 12);
        c.due("of the TOTAL", x.measure(0, 1, 3), 4);
    }

    private static void roundsOfThePast() {
        c.of("4 how many ROUNDS its PAST has");
        EnoughServers x = Check.with(TWO);
        for (int r = 0; r <= 20; r++) {
            c.due("behind " + r, x.measure(0, 1, 4), Math.min(r, 18));
            x.round();
        }
        x.undo();
        c.due("behind 20", x.measure(0, 1, 4), 18);
        EnoughServers y = Check.with(TWO);
        Check.rounds(y, 18);
        c.due("18", y.measure(0, 0, 4), 18);
        y.undo();
        c.due("one undone", y.measure(0, 0, 4), 17);
    }

    private static void valueInARound() {
        c.of("10 and k: its VALUE in the ROUND k (0 to 17) ahead of the latest one (10: in the latest; NONE: it MISSED)");
        int[] rounds = {0, 1, 2, 17, 18, 19, 36};
        for (int done : rounds) {
            EnoughServers x = Check.with(TWO);
            for (int r = 0; r < done; r++) {
                x.load(0, 0, r % 5 == 3 ? -1 : r);
                x.round();
            }
            x.load(0, 0, 555);
            for (int k = 0; k <= 18; k++) {
                int r = done - 1 - k;
                int due = r < 0 || k == 18 ? OUTSIDE : r % 5 == 3 ? NONE : r;
                c.due("behind " + done + ", measure(0, 0, " + (10 + k) + ")", x.measure(0, 0, 10 + k), due);
            }
        }
    }

    private static void measureWhat() {
        c.of("OUTSIDE (a ROUND that is not in its PAST, too)");
        EnoughServers x = Check.with(TWO);
        c.due("no ROUND yet", x.measure(0, 0, 10), OUTSIDE);
        Check.rounds(x, 20);
        int[] whats = {-1, -2, 5, 6, 7, 8, 9, 28, 29, FAR[0], FAR[1]};
        for (int what : whats) c.due("measure(0, 0, " + what + ")", x.measure(0, 0, what), OUTSIDE);
        c.due("the oldest ROUND that is there", x.measure(0, 0, 27), NONE);
    }

    private static void measureUnknown() {
        c.of("measure .. UNKNOWN");
        EnoughServers x = Check.with(TWO);
        int[][] rows = {{-1, 0}, {2, 0}, {4, 0}, {0, -1}, {0, 2}, {0, 3}, {1, 0}, {1, -1}, {FAR[0], 0}, {FAR[1], 0}, {0, FAR[0]}, {0, FAR[1]}};
        for (int[] row : rows) {
            c.due("measure(" + row[0] + ", " + row[1] + ", 0)", x.measure(row[0], row[1], 0), UNKNOWN);
            c.due("measure(" + row[0] + ", " + row[1] + ", 5)", x.measure(row[0], row[1], 5), UNKNOWN);
        }
    }

    private static void startingInRounds() {
        c.of("How many servers of a SERVICE become READY in a ROUND (R to R and 6).");
        EnoughServers x = Check.with("h60,6,9,0,4;s0,20,0,1,1,2,0,9,1;t1;s3,9,0,1,1,1,1,1,1;");
        x.load(0, 0, 20);
        x.round();
        // Warm ones in 1; from ROUND 4 on 1 is warm and 1 is cold, from ROUND 5 on all are cold.
        int[] first = {2, 0, 0, 0, 0, 0, 0};
        for (int i = 0; i < 7; i++) c.due("in ROUND " + (1 + i), x.starting(0, 1 + i), first[i]);
        Check.rounds(x, 6);
        // R is 7: ROUND 4 had 1 of each, 5 and 6 had 2 cold ones.
        int[] seventh = {0, 0, 0, 1, 2, 2, 0};
        for (int i = 0; i < 7; i++) c.due("in ROUND " + (7 + i), x.starting(0, 7 + i), seventh[i]);
        for (int i = 0; i < 7; i++) c.due("of the other", x.starting(1, 7 + i), 0);
        // In R itself: not READY yet.
        Check.rounds(x, 3);
        c.due("R", x.count(0), 10);
        c.due("in R", x.starting(0, 10), 1);
        int ready = x.service(0, 11);
        x.round();
        c.due("READY then", x.service(0, 11), ready + 1);
        // R is 11: the last two were got in ROUND 9, the twentieth among them.
        c.due("in ROUND 15", x.starting(0, 15), 2);
        c.due("in ROUND 16", x.starting(0, 16), 0);
        c.due("in R and 6", x.starting(0, 17), 0);
    }

    private static void startingOutside() {
        c.of("(R to R and 6)");
        EnoughServers x = Check.with("h60,6,0,0,4;s0,20,0,1,1,2,0,9,1;t1;");
        int[] rounds = {0, 1, 2, 7, 8, 9, 15, 16, 17, 30};
        int done = 0;
        for (int round : rounds) {
            Check.rounds(x, round - done);
            done = round;
            c.due("R - 1 of " + round, x.starting(0, round - 1), OUTSIDE);
            c.due("R of " + round, x.starting(0, round), 0);
            c.due("R and 6 of " + round, x.starting(0, round + 6), 0);
            c.due("R and 7 of " + round, x.starting(0, round + 7), OUTSIDE);
            c.due("R and 8 of " + round, x.starting(0, round + 8), OUTSIDE);
            for (int far : FAR) c.due("far", x.starting(0, far), OUTSIDE);
        }
        c.due("-1", x.starting(0, -1), OUTSIDE);
    }

    private static void startingUnknown() {
        c.of("starting .. UNKNOWN");
        EnoughServers x = Check.with(TWO);
        int[] services = {-1, 2, 4, FAR[0], FAR[1]};
        for (int s : services) {
            c.due("starting(" + s + ", 0)", x.starting(s, 0), UNKNOWN);
            c.due("starting(" + s + ", -1)", x.starting(s, -1), UNKNOWN);
        }
    }

    private static void counts() {
        c.of("0 R, 1 SERVICES, 2 all COUNTS, 3 what the pool has, 4 to 8 CAPACITY, COLD, POOL, REFILL, SEASON, "
            + "9 how many can be undone, 10 bytes of THE TEXT");
        EnoughServers x = Check.with("h59,6,8,3,5;s3,9,8,1,2,7,6,9,4;t5;q7;s1,4,0,1,1,1,1,1,1;s2,4,0,1,1,1,1,1,1;");
        int[] at = {0, 3, 6, 8, 59, 6, 8, 3, 5, 0, 0};
        for (int i = 0; i < 11; i++) c.due("count(" + i + ")", x.count(i), at[i]);
        Check.write(x, "h9 ");
        x.load(0, 0, 45);
        x.load(0, 1, 0);
        x.round();
        int[] behind = {1, 3, 12, 5, 59, 6, 8, 3, 5, 3, 3};
        for (int i = 0; i < 11; i++) c.due("count(" + i + ") behind a ROUND", x.count(i), behind[i]);
    }

    private static void countOfAct() {
        c.of("9 how many can be undone");
        EnoughServers x = Check.with(TWO);
        for (int i = 0; i <= 12; i++) {
            c.due("behind " + i, x.count(9), Math.min(i, 10));
            x.round();
        }
        for (int i = 10; i >= 0; i--) {
            c.due("count(9)", x.count(9), i);
            x.undo();
        }
    }

    private static void bytesWithoutAHouse() {
        c.of("10 bytes of THE TEXT (10 without a HOUSE, too). UNKNOWN (but 10)");
        EnoughServers x = new EnoughServers();
        for (int i = 0; i < 160; i++) {
            c.due("count(10)", x.count(10), i);
            x.write('9');
        }
        c.due("count(10)", x.count(10), 160);
        for (int what = -1; what <= 11; what++) c.due("count(" + what + ")", x.count(what), what == 10 ? 160 : UNKNOWN);
        x.write('9');
        c.due("count(10), full", x.count(10), 160);
        x.house();
        c.due("count(10), read", x.count(10), 0);
    }

    private static void countWhat() {
        c.of("count .. OUTSIDE");
        EnoughServers x = Check.with(TWO);
        int[] whats = {-1, -2, 11, 12, FAR[0], FAR[1]};
        for (int what : whats) c.due("count(" + what + ")", x.count(what), OUTSIDE);
    }
}
