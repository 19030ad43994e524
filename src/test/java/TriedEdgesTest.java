/** Promises 13, 14, 16, 17, 18 and WHY, edge by edge: would, why, ahead, until, needs. */
public final class TriedEdgesTest {
    private static final Check c = new Check();
    private static final int UNKNOWN = EnoughServers.UNKNOWN, OUTSIDE = EnoughServers.OUTSIDE, NONE = EnoughServers.NONE;
    private static final int[] FAR = {Integer.MIN_VALUE, Integer.MAX_VALUE};

    public static void main(String[] args) {
        wouldBehindStepOne();
        wouldBeAsTheRound();
        wouldBeOfSixKinds();
        wouldHaveAPlace();
        wouldHaveNoPlace();
        wouldWhat();
        whyHouse();
        whyEdge();
        whyStep();
        whyWindow();
        whyInTheirOrder();
        whyNotSoMany();
        whyOutside();
        aheadAsTheRounds();
        aheadOnlyInThem();
        aheadValuesStay();
        aheadBounds();
        untilTheFewest();
        untilFirstAndLast();
        untilReadyAsTheNextBegins();
        untilThoughItIsLost();
        untilBounds();
        needsLeastValue();
        needsNothing();
        needsOthersStay();
        needsWithForecasts();
        needsBehindStepOne();
        needsAverageNear();
        needsAverageNearEachTarget();
        needsTheMost();
        needsBounds();
        unknown();
        c.end("TriedEdgesTest");
    }

    private static EnoughServers one(String house, String numbers, int value) {
        EnoughServers x = Check.with(house + "s" + numbers + ";t1;");
        x.load(0, 0, value);
        return x;
    }

    private static void would(EnoughServers x, int... due) {
        for (int i = 0; i < due.length; i++) c.due("would(0, " + i + ")", x.would(0, i), due[i]);
    }

    private static void wouldBehindStepOne() {
        c.of("Of a SERVICE in the ROUND to come (step 1 done)");
        EnoughServers x = Check.with("h60,1,0,0,4;s1,20,8,1,1,9,0,9,1;a10;");
        x.load(0, 0, 40);
        would(x, 4, 4, 4, 4, 4, 0);
        x.round();
        c.due("READY", x.service(0, 11), 1);
        would(x, 16, 16, 13, 13, 13, 0);
        c.due("READY yet", x.service(0, 11), 1);
    }

    private static void wouldBeAsTheRound() {
        c.of("4 COUNT behind the ROUND");
        EnoughServers x = Check.with(Three.TEXT);
        for (int i = 0; i < 13; i++) {
            Three.play(x, i, i + 1);
            int[] would = {x.would(0, 4), x.would(1, 4), x.would(2, 4)};
            int lack = x.service(0, 14);
            int want = x.would(0, 0);
            c.due("round()", x.round(), would[0] + would[1] + would[2]);
            for (int s = 0; s < 3; s++) c.due("COUNT of " + s, x.service(s, 10), would[s]);
            c.due("LACK by WANT", x.service(0, 14) - lack, Math.max(want - x.service(0, 11), 0));
            x.undo();
        }
    }

    private static void wouldBeOfSixKinds() {
        c.of("what = 0 WANT, 1 STEADY, 2 BOUND, 3 DUE, 4 COUNT behind the ROUND, 5 its place (0 on)");
        // COUNT 2 of 6; WANTS 4, then 9; ADD 1; LEAST 5 told anew; the other SERVICE has filled the house, and is first.
        EnoughServers x = Check.with("h6,2,0,0,3;s2,9,1,2,1,1,0,9,1;t1;s0,9,5,1,1,9,0,9,1;t1;");
        x.load(0, 0, 4);
        x.load(1, 0, 4);
        x.round();
        x.load(0, 0, 9);
        x.load(1, 0, 5);
        x.set(0, 0, 5);
        would(x, 9, 4, 3, 5, 2, 1);
    }

    private static void wouldHaveAPlace() {
        c.of("5 its place (0 on) among those whose COUNT is less than DUE, in the order of step 4, be it that it gets none");
        String numbers = ",1,1,9,0,9,1;t1;";
        EnoughServers x = Check.with("h4,3,1,0,4;s1,9,1" + numbers + "s1,9,4" + numbers + "s1,9,2" + numbers + "s1,9,3" + numbers);
        int[] places = {3, 0, 2, 1};
        for (int s = 0; s < 4; s++) x.load(s, 0, 9);
        for (int s = 0; s < 4; s++) {
            c.due("place of " + s, x.would(s, 5), places[s]);
            c.due("it gets none", x.would(s, 4), 1);
        }
        x.load(1, 0, 1);
        int[] three = {2, NONE, 1, 0};
        for (int s = 0; s < 4; s++) c.due("place of " + s, x.would(s, 5), three[s]);
    }

    private static void wouldHaveNoPlace() {
        c.of("(NONE: it is none)");
        int[] places = {NONE, NONE, NONE, 0, 0};
        for (int value = 1; value <= 5; value++) {
            EnoughServers x = one("h60,1,0,0,4;", "3,9,1,1,1,9,0,9,1", value);
            x.set(0, 0, 0);
            c.due("place by " + value, x.would(0, 5), places[value - 1]);
        }
        // It wants more, but DUE is COUNT.
        EnoughServers x = one("h60,1,0,0,4;", "3,3,1,1,1,9,0,9,1", 9);
        c.due("place at MOST", x.would(0, 5), NONE);
        EnoughServers y = one("h60,1,0,0,4;", "3,9,1,1,1,0,0,9,1", 9);
        c.due("place without a step", y.would(0, 5), NONE);
        // All that it lacks are STARTING: COUNT is DUE, READY is not; and the other one is the first.
        EnoughServers z = Check.with("h60,6,0,0,4;s0,9,9,1,1,9,0,9,1;t1;s0,9,1,1,1,9,0,9,1;t1;");
        z.load(0, 0, 5);
        z.round();
        z.load(1, 0, 2);
        c.due("place of one whose servers are STARTING", z.would(0, 5), NONE);
        c.due("place of the other", z.would(1, 5), 0);
    }

    private static void wouldWhat() {
        c.of("would .. OUTSIDE");
        EnoughServers x = Check.with(Three.TEXT);
        int[] whats = {-1, -2, 6, 7, FAR[0], FAR[1]};
        for (int what : whats) c.due("would(2, " + what + ")", x.would(2, what), OUTSIDE);
        c.due("would(2, 0)", x.would(2, 0), 2);
        c.due("would(2, 5)", x.would(2, 5), NONE);
    }

    private static void causes(String what, EnoughServers x, int service, int... causes) {
        for (int i = 0; i < causes.length; i++) c.due(what + ", why(" + service + ", " + i + ")", x.why(service, i), causes[i]);
        c.due(what + ", no more", x.why(service, causes.length), NONE);
    }

    private static void whyHouse() {
        c.of("4 HOUSE (it will get fewer than it lacks to DUE)");
        int[] capacities = {3, 4, 5, 6, 7, 8};
        for (int capacity : capacities) {
            EnoughServers x = one("h" + capacity + ",1,0,0,4;", "3,9,1,1,1,9,0,9,1", 7);
            if (capacity < 7) causes("CAPACITY " + capacity, x, 0, 4);
            else causes("CAPACITY " + capacity, x, 0);
        }
        // It lacks nothing, though the house is full; it gives up, though the house is full.
        causes("full", one("h3,1,0,0,4;", "3,9,1,1,1,9,0,9,1", 3), 0);
        EnoughServers less = one("h3,1,0,0,4;", "3,9,1,1,1,9,0,9,1", 1);
        less.set(0, 0, 0);
        causes("full, less", less, 0);
        // Of two the second gets one of two.
        EnoughServers two = Check.with("h9,1,0,0,4;s2,9,1,1,1,9,0,9,1;t1;s2,9,5,1,1,9,0,9,1;t1;");
        two.load(0, 0, 4);
        two.load(1, 0, 6);
        causes("the lower RANK", two, 0, 4);
        causes("the higher RANK", two, 1);
        two.load(1, 0, 5);
        causes("both get all", two, 0);
    }

    private static void whyEdge() {
        c.of("3 EDGE (DUE is not BOUND)");
        int[] values = {1, 2, 3, 4, 5, 6};
        for (int value : values) {
            EnoughServers x = one("h60,1,0,0,4;", "2,5,1,1,1,9,0,9,1", value);
            if (value == 1 || value == 6) causes("by " + value, x, 0, 3);
            else causes("by " + value, x, 0);
        }
    }

    private static void whyStep() {
        c.of("2 STEP (BOUND is not STEADY)");
        for (int value = 0; value <= 9; value++) {
            EnoughServers x = one("h60,1,0,0,4;", "5,9,1,1,1,2,0,2,1", value);
            x.set(0, 0, 0);
            if (value < 3 || value > 7) causes("by " + value, x, 0, 2);
            else causes("by " + value, x, 0);
        }
    }

    private static void whyWindow() {
        c.of("1 WINDOW (STEADY is not WANT)");
        for (int value = 0; value <= 9; value++) {
            EnoughServers x = one("h60,1,0,0,4;", "0,9,1,2,2,9,0,9,1", 5);
            x.round();
            x.load(0, 0, value);
            if (value == 5) causes("by " + value, x, 0);
            else causes("by " + value, x, 0, 1);
        }
    }

    private static void whyInTheirOrder() {
        c.of("what held it, as causes, that of the outer one first .. those that are so");
        // COUNT 2 of 6; WANTS 4, then 9; ADD 1; LEAST 5 told anew; the other SERVICE has filled the house.
        EnoughServers x = Check.with("h6,2,0,0,3;s2,9,1,2,1,1,0,9,1;t1;s0,9,5,1,1,9,0,9,1;t1;");
        x.load(0, 0, 4);
        x.load(1, 0, 4);
        x.round();
        x.load(0, 0, 9);
        x.set(0, 0, 5);
        causes("all four", x, 0, 4, 3, 2, 1);
        x.set(0, 0, 3);
        causes("no EDGE", x, 0, 4, 2, 1);
        x.set(0, 5, 9);
        causes("no STEP", x, 0, 4, 1);
        x.set(0, 3, 1);
        causes("no WINDOW", x, 0, 4);
        x.set(0, 5, 1);
        x.set(0, 0, 5);
        causes("no WINDOW, but STEP and EDGE", x, 0, 4, 3, 2);
        x.load(1, 0, 0);
        causes("no HOUSE", x, 0, 3, 2);
        x.set(0, 3, 2);
        causes("no HOUSE, but WINDOW", x, 0, 3, 2, 1);
        x.set(0, 5, 2);
        causes("EDGE and WINDOW", x, 0, 3, 1);
        x.set(0, 0, 0);
        causes("WINDOW alone", x, 0, 1);
    }

    private static void whyNotSoMany() {
        c.of("cause number i (0 on, the outermost first); NONE: not so many");
        EnoughServers x = one("h60,1,0,0,4;", "2,5,1,1,1,9,0,9,1", 9);
        int[] many = {1, 2, 3, 4, 5, 100, FAR[1]};
        c.due("why(0, 0)", x.why(0, 0), 3);
        for (int i : many) c.due("why(0, " + i + ")", x.why(0, i), NONE);
    }

    private static void whyOutside() {
        c.of("OUTSIDE: i below 0.");
        EnoughServers x = one("h60,1,0,0,4;", "2,5,1,1,1,9,0,9,1", 9);
        c.due("why(0, -1)", x.why(0, -1), OUTSIDE);
        c.due("why(0, -2)", x.why(0, -2), OUTSIDE);
        c.due("far", x.why(0, FAR[0]), OUTSIDE);
    }

    /** What ahead() tells, of an object whose ROUNDS are done. */
    private static int total(EnoughServers x, int what) {
        if (what == 0) return x.count(2);
        if (what == 3) return x.count(3);
        return x.service(0, 12 + what) + x.service(1, 12 + what) + x.service(2, 12 + what);
    }

    private static void aheadAsTheRounds() {
        c.of("n ROUNDS (1 to 50) as if they were done, all VALUES staying: what = 0 all COUNTS then, 1 SPENT in them, "
            + "2 LACK in them (of all SERVICES), 3 what the pool has then");
        int[] played = {0, 1, 5, 20};
        for (int before : played) {
            for (int what = 0; what <= 3; what++) {
                EnoughServers x = Three.played(before);
                EnoughServers done = Three.played(before);
                int from = what == 1 || what == 2 ? total(done, what) : 0;
                for (int n = 1; n <= 50; n++) {
                    done.round();
                    c.due("ahead(" + n + ", " + what + ") behind " + before, x.ahead(n, what), total(done, what) - from);
                }
            }
        }
    }

    private static void aheadOnlyInThem() {
        c.of("1 SPENT in them, 2 LACK in them (of all SERVICES)");
        EnoughServers x = Check.with("h60,2,4,1,3;s0,20,0,1,1,9,0,9,1;t1;s2,9,0,1,1,9,0,9,1;t1;");
        x.load(0, 0, 3);
        x.load(1, 0, 5);
        int[][] due = {{8, 8, 8}, {8, 16, 24}, {6, 8, 8}, {1, 2, 3}};
        // ROUND 0: 3 and 3 are got, 4 of the pool: LACK 3 and 3. In ROUND 1 the second has 3 of 5 READY, in ROUND 2 all.
        for (int what = 0; what < 4; what++) {
            for (int n = 1; n <= 3; n++) c.due("ahead(" + n + ", " + what + ")", x.ahead(n, what), due[what][n - 1]);
        }
        x.round();
        c.due("SPENT of the next alone", x.ahead(1, 1), 8);
        c.due("LACK of the next alone", x.ahead(1, 2), 2);
        c.due("LACK of the next two", x.ahead(2, 2), 2);
    }

    /** FORESEEN loads go on to be foreseen, as the VALUE that stays becomes PAST in the ROUNDS that are tried. */
    private static void aheadValuesStay() {
        c.of("as if they were done, all VALUES staying");
        EnoughServers x = Check.with("h60,1,0,0,2;s0,20,0,1,1,9,99,9,1;f1;");
        x.load(0, 0, 9);
        x.round();
        x.load(0, 0, 2);
        // R is 1: ROUND 2 is foreseen by ROUND 0, ROUND 3 by ROUND 1, which has 2; ROUND 4 by ROUNDS 2, 0: 6; 5; 6, 4, 2: ..
        int[] counts = {9, 2, 6, 2, 5, 2, 2};
        for (int n = 1; n <= 7; n++) c.due("ahead(" + n + ", 0)", x.ahead(n, 0), counts[n - 1]);
        c.due("VALUE", x.measure(0, 0, 2), 2);
        EnoughServers misses = Check.with("h60,1,0,0,2;s3,20,0,1,1,9,99,9,1;q1;");
        c.due("it MISSES in all of them", misses.ahead(50, 0), 3);
        misses.load(0, 0, 2);
        c.due("one more in each", misses.ahead(5, 0), 8);
        misses.load(0, 0, 0);
        misses.set(0, 0, 0);
        c.due("one less in each", misses.ahead(2, 0), 1);
        c.due("none at last", misses.ahead(50, 0), 0);
    }

    private static void aheadBounds() {
        c.of("ahead .. n ROUNDS (1 to 50) .. OUTSIDE");
        EnoughServers x = one("h60,1,9,3,4;", "1,20,1,1,1,1,0,9,3", 20);
        int[] outside = {0, -1, 51, 52, FAR[0], FAR[1]};
        for (int n : outside) c.due("ahead(" + n + ", 0)", x.ahead(n, 0), OUTSIDE);
        int[] whats = {-1, 4, FAR[0], FAR[1]};
        for (int what : whats) c.due("ahead(1, " + what + ")", x.ahead(1, what), OUTSIDE);
        c.due("ahead(1, 0)", x.ahead(1, 0), 2);
        c.due("ahead(49, 0)", x.ahead(49, 0), 18);
        c.due("ahead(50, 0)", x.ahead(50, 0), 18);
        c.due("ahead(48, 0)", x.ahead(48, 0), 17);
        c.due("ahead(46, 0)", x.ahead(46, 0), 17);
        c.due("ahead(45, 0)", x.ahead(45, 0), 16);
        c.due("ahead(1, 3)", x.ahead(1, 3), 9);
        c.due("without a HOUSE", new EnoughServers().ahead(0, 9), UNKNOWN);
    }

    private static void untilTheFewest() {
        c.of("The fewest ROUNDS (1 to 50), all VALUES staying, behind which a SERVICE has n READY or more");
        EnoughServers x = one("h20,3,0,0,2;", "1,20,0,1,1,2,0,9,1", 6);
        // 2 a ROUND, READY in the third from then: 1 now, 3 behind ROUND 2 with step 1 of ROUND 3, 5, 6.
        int[] due = {1, 3, 3, 4, 4, 5, NONE, NONE};
        for (int n = 1; n <= 8; n++) c.due("until(0, " + n + ")", x.until(0, n), due[n - 1]);
        x.round();
        int[] next = {1, 2, 2, 3, 3, 4, NONE, NONE};
        for (int n = 1; n <= 8; n++) c.due("a ROUND later, until(0, " + n + ")", x.until(0, n), next[n - 1]);
    }

    private static void untilFirstAndLast() {
        c.of("ROUNDS (1 to 50) .. NONE");
        EnoughServers now = one("h20,3,0,0,2;", "5,20,0,1,1,2,0,9,1", 5);
        c.due("as it is now: behind one", now.until(0, 5), 1);
        int[] due = {49, 50, NONE};
        for (int cold = 1; cold <= 3; cold++) {
            EnoughServers x = one("h60," + cold + ",0,0,2;", "0,20,0,1,1,1,0,9,4", 20);
            // One in four ROUNDS: the 13th is got in ROUND 48, and READY in ROUND 48 and COLD.
            c.due("COLD " + cold, x.until(0, 13), due[cold - 1]);
        }
        EnoughServers never = one("h60,1,0,0,2;", "1,20,0,1,1,0,0,9,1", 20);
        c.due("never", never.until(0, 2), NONE);
        EnoughServers twenty = one("h60,1,0,0,2;", "1,20,0,1,1,9,99,9,1", 20);
        c.due("20 of MOST 20", twenty.until(0, 20), 2);
        EnoughServers most = one("h60,1,0,0,2;", "1,19,0,1,1,9,99,9,1", 20);
        c.due("20 of MOST 19", most.until(0, 20), NONE);
        c.due("19 of MOST 19", most.until(0, 19), 2);
    }

    private static void untilReadyAsTheNextBegins() {
        c.of("READY as the next ROUND would begin, step 1 done");
        int[] due = {1, 2, 3, 4, 5, 6};
        for (int cold = 1; cold <= 6; cold++) {
            EnoughServers x = one("h60," + cold + ",0,0,2;", "0,20,0,1,1,9,0,9,1", 4);
            c.due("COLD " + cold, x.until(0, 4), due[cold - 1]);
            EnoughServers warm = one("h60," + cold + ",4,0,2;", "0,20,0,1,1,9,0,9,1", 4);
            c.due("warm", warm.until(0, 4), 1);
            EnoughServers some = one("h60," + cold + ",3,0,2;", "0,20,0,1,1,9,0,9,1", 4);
            c.due("3 are warm", some.until(0, 3), 1);
            c.due("the fourth is cold", some.until(0, 4), due[cold - 1]);
        }
    }

    /** It is enough that it has them once, though it gives them up behind that. */
    private static void untilThoughItIsLost() {
        c.of("The fewest ROUNDS .. behind which a SERVICE has n READY or more");
        EnoughServers x = one("h60,1,0,0,2;", "0,20,0,1,2,9,0,9,1", 6);
        x.round();
        x.load(0, 0, 0);
        // DOWN 2 keeps the 6 for one ROUND more: READY with step 1 of ROUND 2, given up in it.
        c.due("until(0, 6)", x.until(0, 6), 1);
        c.due("ahead(2, 0)", x.ahead(2, 0), 0);
        x.round();
        c.due("now they will be given up in the first", x.until(0, 1), NONE);
    }

    private static void untilBounds() {
        c.of("until .. (1 to 20 .. OUTSIDE");
        EnoughServers x = one("h60,1,0,0,2;", "1,20,0,1,1,9,99,9,1", 20);
        int[] outside = {0, -1, 21, 22, FAR[0], FAR[1]};
        for (int n : outside) c.due("until(0, " + n + ")", x.until(0, n), OUTSIDE);
        c.due("until(0, 1)", x.until(0, 1), 1);
        c.due("until(0, 20)", x.until(0, 20), 2);
    }

    private static void needs(EnoughServers x, int measure, int... wantsAndValues) {
        for (int i = 0; i < wantsAndValues.length; i += 2) {
            c.due("needs(0, " + measure + ", " + wantsAndValues[i] + ")", x.needs(0, measure, wantsAndValues[i]), wantsAndValues[i + 1]);
        }
    }

    private static void needsLeastValue() {
        c.of("The least VALUE (0 to 9999) of a MEASURE .. by which WANT of its SERVICE in the ROUND to come is n (0 to 99) or more");
        needs(Check.with("h60,1,0,0,2;s0,20,0,1,1,9,99,9,1;t1;"), 0, 0, 0, 1, 1, 2, 2, 99, 99);
        needs(Check.with("h60,1,0,0,2;s0,20,0,1,1,9,99,9,1;t7;"), 0, 0, 0, 1, 1, 2, 8, 3, 15, 99, 687);
        needs(Check.with("h60,1,0,0,2;s3,20,0,1,1,9,99,9,1;q5;"), 0, 0, 0, 2, 0, 3, 1, 4, 6, 5, 11, 99, 481);
        needs(Check.with("h60,1,0,0,2;s0,20,0,1,1,9,99,9,1;q1;"), 0, 0, 0, 1, 2, 2, 3, 99, 100);
        EnoughServers x = Check.with("h60,1,0,0,2;s0,20,0,1,1,9,99,9,1;f10;");
        needs(x, 0, 0, 0, 1, 1, 2, 11, 99, 981);
        x.load(0, 0, 35);
        x.round();
        // ROUND 2 is foreseen with 35.
        needs(x, 0, 0, 0, 1, 0, 4, 0, 5, 41, 99, 981);
    }

    private static void needsNothing() {
        c.of("n (0 to 99) or more");
        for (char sort : new char[] {'t', 'f', 'a', 'q'}) {
            EnoughServers x = Check.with("h60,1,0,0,2;s0,20,0,1,1,9,99,9,1;" + sort + "9;");
            c.due("needs(0, 0, 0) of " + sort, x.needs(0, 0, 0), 0);
            x.load(0, 0, 500);
            c.due("its own VALUE is no matter", x.needs(0, 0, 0), 0);
            int needed = x.needs(0, 0, 5);
            x.load(0, 0, -1);
            c.due("nor that it MISSES", x.needs(0, 0, 5), needed);
            x.load(0, 0, needed);
            c.holds("so much wants 5: " + needed, x.would(0, 0) >= 5);
            x.load(0, 0, needed - 1);
            c.holds("one less does not: " + needed, x.would(0, 0) < 5);
        }
    }

    private static void needsOthersStay() {
        c.of("the others staying");
        EnoughServers x = Check.with("h60,1,0,0,2;s4,20,0,1,1,9,99,9,1;t10;t5;q3;");
        x.load(0, 1, 31);
        x.load(0, 2, 1);
        // The second wants 7, the queue COUNT: 4.
        needs(x, 0, 0, 0, 1, 0, 6, 0, 7, 0, 8, 71, 9, 81);
        needs(x, 1, 0, 0, 3, 0, 4, 0, 5, 21, 7, 31);
        needs(x, 2, 7, 0, 8, 13);
        x.load(0, 1, -1);
        needs(x, 0, 4, 0, 5, 41);
        c.due("VALUES are what they were", x.measure(0, 0, 2), NONE);
        c.due("VALUES are what they were", x.measure(0, 2, 2), 1);
        c.due("no ACTS", x.count(9), 3);
    }

    /** COLD 2, SEASON 3; R is 5: ROUND 7 is foreseen by ROUNDS 4 and 1, which had 50 and 21. */
    private static void needsWithForecasts() {
        c.of("the others staying, by which WANT of its SERVICE in the ROUND to come is n (0 to 99) or more");
        EnoughServers x = Check.with("h60,2,0,0,3;s0,20,0,1,1,9,0,9,1;f10;t7;");
        int[] loads = {90, 21, 99, 99, 50};
        for (int load : loads) {
            x.load(0, 0, load);
            x.load(0, 1, 0);
            x.round();
        }
        x.load(0, 0, 3);
        c.due("FORECAST by COLD", x.forecast(0, 0, 2), 36);
        needs(x, 0, 3, 0, 4, 0, 5, 41);
        needs(x, 1, 3, 0, 4, 0, 5, 29);
        x.best(0);
        needs(x, 0, 4, 0, 5, 41);
        needs(x, 1, 4, 0, 5, 29);
        x.load(0, 0, -1);
        c.due("COUNT", x.service(0, 10), 10);
        needs(x, 1, 10, 0, 11, 71);
    }

    private static void needsBehindStepOne() {
        c.of("in the ROUND to come");
        EnoughServers x = Check.with("h60,1,0,0,2;s1,20,0,1,1,9,99,9,1;a50;t1;");
        x.load(0, 1, 4);
        x.round();
        x.load(0, 1, 0);
        // 4 will be READY: 4 times 25 by 50 is 2; 26 more than 2; near from 45 on COUNT is 4.
        needs(x, 0, 0, 0, 1, 1, 2, 13, 3, 26, 4, 38, 5, 56);
        c.due("READY", x.service(0, 11), 1);
        // So for an AVERAGE that is one of the others: 4 times 100 by 50.
        x.load(0, 0, 100);
        needs(x, 1, 8, 0, 9, 9);
    }

    /** COUNT 8, READY 3, as far as the TARGET's tenth: 8 are wanted from there on, and 3 below. */
    private static void needsAverageNearEachTarget() {
        c.of("The least VALUE .. WANT of its SERVICE");
        for (int target = 4; target <= 99; target++) {
            EnoughServers x = Check.with("h60,6,0,0,2;s3,20,0,1,1,9,0,9,1;a" + target + ";t1;");
            x.load(0, 1, 8);
            x.round();
            x.load(0, 1, 0);
            int near = target - target / 10;
            needs(x, 0, 8, near, 4, near, 9, (8 * target) / 3 + 1);
        }
    }

    private static void needsAverageNear() {
        c.of("The least VALUE");
        EnoughServers x = Check.with("h60,6,0,0,2;s3,20,0,1,1,9,0,9,1;a50;t1;");
        x.load(0, 1, 8);
        x.round();
        x.load(0, 1, 0);
        // COUNT 8, READY 3: 45 to 55 wants 8, 56 wants 4, and 8 again only 117.
        needs(x, 0, 3, 34, 4, 45, 8, 45, 9, 134);
        int[][] rows = {{44, 3}, {45, 8}, {55, 8}, {56, 4}, {116, 7}, {117, 8}, {133, 8}, {134, 9}};
        for (int[] row : rows) {
            x.load(0, 0, row[0]);
            c.due("WANT by " + row[0], x.would(0, 0), row[1]);
        }
        // TARGET 1: near is 1 alone; 0 is below.
        EnoughServers y = Check.with("h60,6,0,0,2;s3,20,0,1,1,9,0,9,1;a1;");
        needs(y, 0, 0, 0, 1, 1, 3, 1, 4, 2, 6, 2, 7, 3, 99, 33);
        EnoughServers z = Check.with("h60,6,0,0,2;s0,20,0,1,1,9,0,9,1;a10;");
        // COUNT 0: near 10 nothing is wanted, but 1 is by 1 to 8.
        needs(z, 0, 0, 0, 1, 1, 2, 12, 3, 21, 99, 981);
    }

    /** The dearest there are: TARGET 99, and no server that would help. NONE is never due within the bounds. */
    private static void needsTheMost() {
        c.of("needs .. NONE");
        needs(Check.with("h60,1,0,0,2;s0,20,0,1,1,9,99,9,1;t99;"), 0, 99, 9703, 98, 9604);
        needs(Check.with("h60,1,0,0,2;s0,20,0,1,1,9,99,9,1;f99;"), 0, 99, 9703, 98, 9604);
        needs(Check.with("h60,1,0,0,2;s0,20,0,1,1,9,99,9,1;a99;"), 0, 99, 9703, 98, 9604);
        needs(Check.with("h60,1,0,0,2;s0,20,0,1,1,9,99,9,1;q99;"), 0, 99, 9802, 98, 9703);
        for (int target = 1; target <= 99; target++) {
            for (char sort : new char[] {'t', 'f', 'a', 'q'}) {
                EnoughServers x = Check.with("h60,1,0,0,2;s0,20,0,1,1,9,99,9,1;" + sort + target + ";");
                int needed = x.needs(0, 0, 99);
                c.due(sort + " " + target, needed, sort == 'q' ? 99 * target + 1 : 98 * target + 1);
            }
        }
    }

    private static void needsBounds() {
        c.of("needs .. OUTSIDE");
        EnoughServers x = one("h60,1,0,0,2;", "0,20,0,1,1,9,99,9,1", 7);
        int[] outside = {-1, -2, 100, 101, FAR[0], FAR[1]};
        for (int n : outside) c.due("needs(0, 0, " + n + ")", x.needs(0, 0, n), OUTSIDE);
        c.due("needs(0, 0, 0)", x.needs(0, 0, 0), 0);
        c.due("needs(0, 0, 99)", x.needs(0, 0, 99), 99);
    }

    private static void unknown() {
        c.of("UNKNOWN -1000001 (no HOUSE; no such SERVICE, MEASURE)");
        EnoughServers x = Check.with(Three.TEXT);
        int[] services = {-1, 3, 4, FAR[0], FAR[1]};
        for (int s : services) {
            c.due("would(" + s + ", 0)", x.would(s, 0), UNKNOWN);
            c.due("would(" + s + ", 6)", x.would(s, 6), UNKNOWN);
            c.due("why(" + s + ", 0)", x.why(s, 0), UNKNOWN);
            c.due("why(" + s + ", -1)", x.why(s, -1), UNKNOWN);
            c.due("until(" + s + ", 1)", x.until(s, 1), UNKNOWN);
            c.due("until(" + s + ", 0)", x.until(s, 0), UNKNOWN);
            c.due("needs(" + s + ", 0, 1)", x.needs(s, 0, 1), UNKNOWN);
            c.due("needs(" + s + ", 0, -1)", x.needs(s, 0, -1), UNKNOWN);
        }
        int[][] measures = {{0, -1}, {0, 2}, {0, 3}, {1, 1}, {2, 0}, {2, -1}, {0, FAR[0]}, {0, FAR[1]}};
        for (int[] row : measures) {
            c.due("needs(" + row[0] + ", " + row[1] + ", 1)", x.needs(row[0], row[1], 1), UNKNOWN);
            c.due("needs(" + row[0] + ", " + row[1] + ", 100)", x.needs(row[0], row[1], 100), UNKNOWN);
        }
    }
}
