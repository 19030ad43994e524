/** Section 2 of the terms, a ROUND step by step, edge by edge; promise 7 with it. */
public final class RoundEdgesTest {
    private static final Check c = new Check();

    public static void main(String[] args) {
        readyInR();
        upWindow();
        downWindow();
        windowsSoFarAsThereAre();
        windowsAsTheyAreNow();
        wantsAsTheyWere();
        steadyByCount();
        gainedInPeriod();
        lostInPeriod();
        periodAsItIsNow();
        greaterOfAddAndPercent();
        percentCutUp();
        percentOfWhatWasThere();
        gainedMoreThanCount();
        ceilingBelowCount();
        floor();
        floorAboveCount();
        steadyAsCount();
        countNotReady();
        dueByLeast();
        dueByMost();
        givesUpLastFirst();
        givesUpReadyOnes();
        getsByRank();
        getsByFractions();
        getsByCountNotByReady();
        getsByNumber();
        getsAsItLacks();
        capacityThen();
        poolFirst();
        readyInCold();
        poolRefills();
        spentByCount();
        lackByReady();
        flutters();
        fluttersOverQuietRounds();
        whoGetsNoneDoesNotFlutter();
        oneRoundMore();
        allCountsTogether();
        c.end("RoundEdgesTest");
    }

    private static EnoughServers one(String numbers) {
        return Check.with("h60,1,0,0,2;s" + numbers + ";t1;");
    }

    private static void round(EnoughServers x, int value, int count) {
        x.load(0, 0, value);
        c.due("round() by " + value, x.round(), count);
    }

    private static void would(EnoughServers x, int value, int want, int steady, int bound, int due) {
        x.load(0, 0, value);
        c.due("WANT by " + value, x.would(0, 0), want);
        c.due("STEADY by " + value, x.would(0, 1), steady);
        c.due("BOUND by " + value, x.would(0, 2), bound);
        c.due("DUE by " + value, x.would(0, 3), due);
    }

    private static void readyInR() {
        c.of("1 STARTING servers that will be READY in R are.");
        for (int cold = 1; cold <= 6; cold++) {
            EnoughServers x = Check.with("h60," + cold + ",0,0,2;s1,20,0,1,6,9,0,0,1;t1;a10;");
            x.load(0, 1, 100);
            round(x, 3, 10);
            // Each READY one is worth 10 to the AVERAGE, as it is asked behind step 1.
            for (int r = 1; r < cold; r++) {
                c.due("WANT in " + r, x.measure(0, 1, 3), 10);
                x.round();
                c.due("READY behind " + r, x.service(0, 11), 1);
            }
            c.due("READY ahead of " + cold, x.service(0, 11), 1);
            c.due("WANT in " + cold, x.measure(0, 1, 3), 100);
            x.round();
            c.due("READY behind " + cold, x.service(0, 11), 10);
        }
    }

    private static void upWindow() {
        c.of("UP of them (the latest) and the least of these .. the least, if COUNT is less than that");
        for (int up = 1; up <= 6; up++) {
            EnoughServers x = one("0,20,0," + up + ",1,9,0,9,1");
            round(x, 1, 1);
            for (int r = 1; r < up; r++) round(x, 9, 1);
            would(x, 9, 9, 9, 9, 9);
            round(x, 9, 9);
        }
        // The least of them wherever it stands: in the oldest ROUND of three, in the middle, in the latest.
        int[][] wants = {{5, 8, 7}, {8, 5, 7}, {8, 7, 5}};
        for (int[] row : wants) {
            EnoughServers x = one("0,20,0,3,1,9,0,9,1");
            x.set(0, 1, 1);
            for (int want : row) round(x, want, 1);
            x.undo();
            x.set(0, 1, 20);
            c.due("STEADY", x.would(0, 1), 5);
        }
    }

    private static void downWindow() {
        c.of("DOWN of them and the greatest of these .. the greatest, if COUNT is more than that");
        for (int down = 1; down <= 6; down++) {
            EnoughServers x = one("0,20,0,1," + down + ",9,0,9,1");
            round(x, 9, 9);
            for (int r = 1; r < down; r++) round(x, 1, 9);
            would(x, 1, 1, 1, 1, 1);
            round(x, 1, 1);
        }
        int[][] wants = {{5, 2, 3}, {2, 5, 3}, {2, 3, 5}};
        for (int[] row : wants) {
            EnoughServers x = one("9,20,0,1,3,9,0,9,1");
            for (int want : row) round(x, want, 9);
            x.undo();
            c.due("STEADY", x.would(0, 1), 5);
        }
    }

    private static void windowsSoFarAsThereAre() {
        c.of("of its WANTS in this ROUND and those done ahead, so far as there are");
        would(one("0,20,0,6,6,9,0,9,1"), 7, 7, 7, 7, 7);
        would(one("3,20,0,6,6,9,0,9,1"), 0, 0, 0, 0, 3);
        EnoughServers x = one("0,20,0,6,6,9,0,9,1");
        round(x, 7, 7);
        would(x, 9, 9, 7, 7, 7);
        would(x, 5, 5, 7, 7, 7);
        round(x, 9, 7);
        would(x, 5, 5, 7, 7, 7);
        x.set(0, 0, 9);
        x.round();
        would(x, 8, 8, 9, 9, 9);
    }

    private static void windowsAsTheyAreNow() {
        c.of("UP of them (the latest)");
        EnoughServers x = one("0,20,0,6,6,9,0,9,1");
        int[] loads = {2, 3, 4, 5, 6};
        for (int load : loads) round(x, load, 2);
        for (int up = 1; up <= 6; up++) {
            x.set(0, 3, up);
            would(x, 7, 7, 8 - up, 8 - up, 8 - up);
        }
        x.set(0, 0, 9);
        x.round();
        x.set(0, 0, 0);
        x.set(0, 3, 1);
        // WANTS are 3, 4, 5, 6, 7 and then 0, COUNT is 9.
        int[] greatest = {0, 7, 7, 7, 7, 7};
        for (int down = 1; down <= 6; down++) {
            x.set(0, 4, down);
            would(x, 0, 0, greatest[down - 1], greatest[down - 1], greatest[down - 1]);
        }
    }

    /** WANTS stay what they were, though the numbers by which they came are others now. */
    private static void wantsAsTheyWere() {
        c.of("of its WANTS in this ROUND and those done ahead");
        EnoughServers x = Check.with("h60,1,0,0,2;s2,20,0,2,2,9,0,9,1;");
        x.round();
        x.set(0, 0, 7);
        c.due("WANT", x.would(0, 0), 7);
        c.due("STEADY, the other WANT was 2", x.would(0, 1), 2);
        c.due("DUE", x.would(0, 3), 7);
        c.due("round()", x.round(), 7);
        x.set(0, 0, 1);
        c.due("STEADY, the other WANT was 7", x.would(0, 1), 7);
        c.due("round()", x.round(), 7);
        c.due("STEADY", x.would(0, 1), 1);
    }

    private static void steadyByCount() {
        c.of("the least, if COUNT is less than that; the greatest, if COUNT is more than that; else COUNT");
        int[] steady = {5, 5, 5, 5, 5, 5, 6, 7, 8, 8};
        for (int count = 1; count <= 9; count++) {
            EnoughServers x = one("0,20,0,2,2,9,0,9,1");
            x.set(0, 0, count);
            x.set(0, 1, count);
            round(x, 5, count);
            x.set(0, 0, 0);
            x.set(0, 1, 20);
            would(x, 8, 8, steady[count], steady[count], steady[count]);
        }
    }

    private static void gainedInPeriod() {
        c.of("GAINED are servers that it got in the PERIOD less 1 ROUNDS ahead");
        int[][] counts = {{2, 4, 6, 8, 10, 12}, {2, 2, 4, 4, 6, 6}, {2, 2, 2, 4, 4, 4}, {2, 2, 2, 2, 4, 4}};
        for (int period = 1; period <= 4; period++) {
            EnoughServers x = one("0,20,0,1,1,2,0,9," + period);
            for (int count : counts[period - 1]) round(x, 20, count);
        }
    }

    private static void lostInPeriod() {
        c.of("LOST those that it gave up in them; FLOOR is COUNT and LOST less DROP");
        int[][] counts = {{7, 5, 3, 1, 0, 0}, {7, 7, 5, 5, 3, 3}, {7, 7, 7, 5, 5, 5}, {7, 7, 7, 7, 5, 5}};
        for (int period = 1; period <= 4; period++) {
            EnoughServers x = one("9,20,0,1,1,9,0,2," + period);
            x.set(0, 0, 0);
            for (int count : counts[period - 1]) round(x, 0, count);
        }
        // What it got in them is not LOST.
        for (int period = 1; period <= 4; period++) {
            EnoughServers x = one("0,20,0,1,1,3,0,2,1");
            round(x, 3, 3);
            round(x, 6, 6);
            round(x, 9, 9);
            x.set(0, 8, period);
            would(x, 0, 0, 0, 7, 7);
        }
    }

    private static void periodAsItIsNow() {
        c.of("in the PERIOD less 1 ROUNDS ahead");
        EnoughServers x = one("0,20,0,1,1,9,0,9,1");
        round(x, 1, 1);
        round(x, 3, 3);
        round(x, 7, 7);
        x.set(0, 5, 9);
        // GAINED 0; 4; 4 and 2; 4, 2 and 1: CEILING is 9 more than COUNT had been.
        int[] ceiling = {16, 12, 10, 9};
        for (int period = 1; period <= 4; period++) {
            x.set(0, 8, period);
            would(x, 20, 20, 20, ceiling[period - 1], ceiling[period - 1]);
        }
        round(x, 7, 7);
        round(x, 6, 6);
        round(x, 4, 4);
        x.set(0, 7, 5);
        // LOST 0; 2; 2 and 1; 2, 1 and 0.
        int[] floor = {0, 1, 2, 2};
        for (int period = 1; period <= 4; period++) {
            x.set(0, 8, period);
            would(x, 0, 0, 0, floor[period - 1], floor[period - 1]);
        }
    }

    private static void greaterOfAddAndPercent() {
        c.of("CEILING is b and the greater of ADD and b times PERCENT by 100 (CUT UP)");
        int[][] rows = {{0, 0, 4}, {0, 50, 6}, {1, 50, 6}, {2, 50, 6}, {3, 50, 7}, {2, 0, 6}, {9, 0, 13}, {9, 99, 13}, {0, 99, 8}};
        for (int[] row : rows) would(one("4,20,0,1,1," + row[0] + "," + row[1] + ",9,1"), 20, 20, 20, row[2], row[2]);
    }

    private static void percentCutUp() {
        c.of("b times PERCENT by 100 (CUT UP)");
        int[][] rows = {{0, 99, 0}, {1, 1, 2}, {1, 99, 2}, {4, 25, 5}, {4, 26, 6}, {4, 50, 6}, {5, 20, 6}, {5, 21, 7}, {5, 40, 7},
            {3, 66, 5}, {3, 67, 6}, {9, 11, 10}, {9, 12, 11}, {9, 99, 18}, {8, 25, 10}, {8, 26, 11}, {8, 24, 10}};
        for (int[] row : rows) would(one(row[0] + ",20,0,1,1,0," + row[1] + ",9,1"), 20, 20, 20, row[2], row[2]);
    }

    private static void percentOfWhatWasThere() {
        c.of("b being COUNT less GAINED");
        EnoughServers x = one("4,20,0,1,1,0,50,9,3");
        int[] counts = {6, 6, 6, 9, 9, 9, 14, 14, 14, 20};
        for (int count : counts) round(x, 20, count);
        // GAINED alone is taken off, not what was LOST: of 6, 2 of which are GAINED, it LOST 3 and has 3; b is 1.
        EnoughServers y = one("4,20,0,1,1,2,50,9,3");
        round(y, 20, 6);
        y.set(0, 0, 0);
        round(y, 3, 3);
        would(y, 20, 20, 20, 3, 3);
        y.set(0, 5, 3);
        would(y, 20, 20, 20, 4, 4);
    }

    private static void gainedMoreThanCount() {
        c.of("(0, if that is below 0)");
        EnoughServers x = one("0,20,0,1,1,9,99,9,4");
        round(x, 9, 9);
        round(x, 1, 1);
        // b would be -8, and 8 more than 1 of no use; it is 0, so that ADD counts from there.
        for (int add = 0; add <= 4; add++) {
            x.set(0, 5, add);
            would(x, 20, 20, 20, Math.max(add, 1), Math.max(add, 1));
        }
        EnoughServers y = one("0,20,0,1,1,9,99,9,4");
        round(y, 9, 9);
        would(y, 20, 20, 20, 9, 9);
        y.set(0, 5, 8);
        would(y, 20, 20, 20, 9, 9);
    }

    private static void ceilingBelowCount() {
        c.of("where STEADY is more than COUNT, the lesser of STEADY and CEILING, but COUNT, if that is less than COUNT");
        int[] adds = {3, 4, 5, 6, 7};
        int[] bound = {5, 5, 6, 7, 7};
        for (int i = 0; i < 5; i++) {
            EnoughServers x = one("1,20,0,1,1,9,0,9,2");
            round(x, 5, 5);
            x.set(0, 5, adds[i]);
            would(x, 7, 7, 7, bound[i], bound[i]);
        }
        EnoughServers y = one("1,20,0,1,1,9,0,9,2");
        round(y, 5, 5);
        y.set(0, 5, 0);
        would(y, 7, 7, 7, 5, 5);
    }

    private static void floor() {
        c.of("where STEADY is less than COUNT, the greater of STEADY and FLOOR");
        int[] bound = {8, 7, 6, 5, 5, 5, 5, 5, 5, 5};
        for (int drop = 0; drop <= 9; drop++) {
            EnoughServers x = one("8,20,0,1,1,9,0," + drop + ",1");
            x.set(0, 0, 0);
            would(x, 5, 5, 5, bound[drop], bound[drop]);
        }
        EnoughServers y = one("8,20,0,1,1,9,0,9,1");
        y.set(0, 0, 0);
        would(y, 0, 0, 0, 0, 0);
    }

    private static void floorAboveCount() {
        c.of("but COUNT, if that is more than COUNT");
        int[] bound = {5, 5, 5, 5, 5, 4, 3, 2, 2, 2};
        for (int drop = 0; drop <= 9; drop++) {
            EnoughServers x = one("9,20,0,1,1,9,0,9,2");
            x.set(0, 0, 0);
            round(x, 5, 5);
            x.set(0, 7, drop);
            // 4 are LOST.
            would(x, 2, 2, 2, bound[drop], bound[drop]);
        }
    }

    private static void steadyAsCount() {
        c.of("BOUND: .. else COUNT");
        EnoughServers x = one("1,20,0,1,1,9,0,9,4");
        round(x, 7, 7);
        x.set(0, 5, 0);
        x.set(0, 7, 0);
        would(x, 7, 7, 7, 7, 7);
        round(x, 7, 7);
    }

    /** 9 servers of which 1 is READY: windows and steps go by all of them. */
    private static void countNotReady() {
        c.of("COUNT of a SERVICE: all of both");
        EnoughServers x = Check.with("h60,6,0,0,2;s1,20,0,1,2,8,0,2,1;t1;");
        round(x, 9, 9);
        c.due("READY", x.service(0, 11), 1);
        would(x, 5, 5, 9, 9, 9);
        would(x, 10, 10, 10, 10, 10);
        x.set(0, 4, 1);
        would(x, 5, 5, 5, 7, 7);
        would(x, 0, 0, 0, 7, 7);
        would(x, 9, 9, 9, 9, 9);
        x.set(0, 5, 3);
        would(x, 20, 20, 20, 12, 12);
        x.set(0, 8, 2);
        // 8 of them are GAINED: b is 1, CEILING 4.
        would(x, 20, 20, 20, 9, 9);
        x.set(0, 8, 1);
        x.set(0, 5, 0);
        x.set(0, 6, 50);
        would(x, 20, 20, 20, 14, 14);
    }

    private static void dueByLeast() {
        c.of("DUE: BOUND, LEAST if it is less");
        int[] due = {4, 4, 4, 4, 4, 5, 6, 7};
        for (int value = 0; value <= 7; value++) {
            EnoughServers x = one("4,20,0,1,1,9,0,9,1");
            would(x, value, value, value, value, due[value]);
        }
        // LEAST told anew counts at once, against DROP and ADD.
        EnoughServers y = one("1,20,0,1,1,0,0,9,1");
        y.set(0, 0, 6);
        would(y, 9, 9, 9, 1, 6);
        round(y, 9, 6);
    }

    private static void dueByMost() {
        c.of("MOST if it is more");
        int[] due = {1, 1, 2, 3, 4, 4, 4};
        for (int value = 1; value <= 6; value++) {
            EnoughServers x = one("1,4,0,1,1,9,0,9,1");
            would(x, value, value, value, value, due[value]);
        }
        would(one("4,4,0,1,1,9,0,9,1"), 9, 9, 9, 9, 4);
        would(one("4,4,0,1,1,9,0,9,1"), 0, 0, 0, 0, 4);
        would(one("9,20,0,1,1,9,99,9,1"), 20, 20, 20, 18, 18);
        would(one("9,20,0,1,1,9,99,9,1"), 9999, 9999, 9999, 18, 18);
        EnoughServers y = one("9,20,0,1,1,9,0,0,1");
        y.set(0, 0, 0);
        y.set(0, 1, 2);
        would(y, 9, 9, 9, 9, 2);
        round(y, 9, 2);
        EnoughServers z = one("9,20,0,1,1,9,99,9,1");
        round(z, 9999, 18);
        round(z, 9999, 20);
        round(z, 9999, 20);
    }

    private static EnoughServers threeLots() {
        EnoughServers x = Check.with("h60,5,2,0,2;s2,20,0,1,1,9,0,9,1;t1;");
        round(x, 5, 5);
        round(x, 9, 9);
        // 2 were READY, of the pool 2 in ROUND 1; then 1 in ROUND 5, 4 in ROUND 6.
        c.due("READY", x.service(0, 11), 4);
        c.due("in ROUND 5", x.starting(0, 5), 1);
        c.due("in ROUND 6", x.starting(0, 6), 4);
        x.set(0, 0, 0);
        return x;
    }

    private static void givesUpLastFirst() {
        c.of("3 Each SERVICE whose COUNT is more than DUE gives up as many: STARTING ones, that which will be READY last first");
        int[][] rows = {{8, 4, 1, 3}, {6, 4, 1, 1}, {5, 4, 1, 0}, {4, 4, 0, 0}};
        for (int[] row : rows) {
            EnoughServers x = threeLots();
            round(x, row[0], row[0]);
            c.due("READY", x.service(0, 11), row[1]);
            c.due("in ROUND 5", x.starting(0, 5), row[2]);
            c.due("in ROUND 6", x.starting(0, 6), row[3]);
        }
        EnoughServers same = threeLots();
        round(same, 9, 9);
        c.due("none given up", same.starting(0, 6), 4);
    }

    private static void givesUpReadyOnes() {
        c.of("then READY ones");
        for (int left = 3; left >= 0; left--) {
            EnoughServers x = threeLots();
            round(x, left, left);
            c.due("READY", x.service(0, 11), left);
            c.due("COUNT", x.service(0, 10), left);
            c.due("none STARTING", x.service(0, 12), -1);
        }
        // Those that become READY in this very ROUND are READY ones, and are given up behind the STARTING.
        EnoughServers y = Check.with("h60,2,2,0,2;s0,20,0,1,1,9,0,9,1;t1;");
        round(y, 4, 4);
        round(y, 2, 2);
        c.due("READY", y.service(0, 11), 2);
        c.due("in ROUND 2", y.starting(0, 2), 0);
    }

    private static EnoughServers three(String house, String a, String b, String d) {
        String numbers = ",1,1,9,0,9,1;t1;";
        return Check.with(house + "s" + a + numbers + "s" + b + numbers + "s" + d + numbers);
    }

    private static void places(EnoughServers x, int... places) {
        for (int s = 0; s < places.length; s++) c.due("place of " + s, x.would(s, 5), places[s]);
    }

    private static void loads(EnoughServers x, int... values) {
        for (int s = 0; s < values.length; s++) x.load(s, 0, values[s]);
    }

    private static void getsByRank() {
        c.of("one SERVICE behind the other: that of a higher RANK first");
        EnoughServers x = three("h60,3,1,0,4;", "5,9,0", "5,9,9", "0,9,8");
        loads(x, 6, 6, 9);
        places(x, 2, 0, 1);
        x.set(0, 2, 9);
        places(x, 0, 1, 2);
        x.set(2, 2, 9);
        // Of one RANK it is the less COUNT by DUE: 0 of 9.
        places(x, 1, 2, 0);
        x.set(1, 2, 0);
        places(x, 1, 2, 0);
        loads(x, 6, 6, 0);
        places(x, 0, 1, -1);
        loads(x, 5, 5, 0);
        places(x, -1, -1, -1);
    }

    private static void getsByFractions() {
        c.of("of several that with the less COUNT by DUE (as fractions)");
        // 2 of 5, 3 of 8, 1 of 2: 0.4, 0.375, 0.5; cut numbers would all be 0.
        EnoughServers x = three("h60,3,1,0,4;", "2,9,3", "3,9,3", "1,9,3");
        loads(x, 5, 8, 2);
        places(x, 1, 0, 2);
        // 2 of 5, 3 of 7: 0.4, 0.428; 1 of 3.
        loads(x, 5, 7, 3);
        places(x, 1, 2, 0);
        // A larger lack, but not the lesser fraction: 4 of 8 lacks 4, 1 of 3 lacks 2, 0 of 1 lacks 1.
        EnoughServers y = three("h60,3,1,0,4;", "4,9,3", "1,9,3", "0,9,3");
        loads(y, 8, 3, 1);
        places(y, 2, 1, 0);
        // By DUE, not by WANT: WANTS are 9, DUES 3 and 9.
        EnoughServers z = three("h60,3,1,0,4;", "2,3,3", "3,9,3", "0,9,0");
        loads(z, 9, 9, 9);
        places(z, 1, 0, 2);
        EnoughServers other = three("h60,3,1,0,4;", "3,9,3", "2,3,3", "0,9,0");
        loads(other, 9, 9, 9);
        places(other, 0, 1, 2);
    }

    private static void getsByCountNotByReady() {
        c.of("the less COUNT by DUE");
        // ROUND 0: 4 and 1, of which 1 and 1 are READY; then 4 of 5 and 1 of 2 (0.8, 0.5), and 4 of 9 and 1 of 2.
        EnoughServers x = Check.with("h60,6,0,0,4;s1,9,3,1,1,9,0,9,1;t1;s1,9,3,1,1,9,0,9,1;t1;");
        loads(x, 4, 1);
        x.round();
        loads(x, 5, 2);
        places(x, 1, 0);
        loads(x, 9, 2);
        places(x, 0, 1);
        EnoughServers y = Check.with("h60,6,0,0,4;s1,9,3,1,1,9,0,9,1;t1;s1,9,3,1,1,9,0,9,1;t1;");
        loads(y, 1, 4);
        y.round();
        loads(y, 2, 5);
        places(y, 0, 1);
        loads(y, 2, 9);
        places(y, 1, 0);
    }

    private static void getsByNumber() {
        c.of("of several the lesser number");
        EnoughServers x = three("h60,3,1,0,4;", "1,9,3", "2,9,3", "3,9,3");
        loads(x, 2, 4, 6);
        places(x, 0, 1, 2);
        loads(x, 3, 6, 9);
        places(x, 0, 1, 2);
        // None of any number is alike, however many are DUE.
        EnoughServers y = three("h60,3,1,0,4;", "0,9,3", "0,9,3", "0,9,3");
        loads(y, 1, 9, 5);
        places(y, 0, 1, 2);
        loads(y, 0, 9, 5);
        places(y, -1, 0, 1);
    }

    private static void behind(EnoughServers x, int sum, int... counts) {
        c.due("round()", x.round(), sum);
        for (int s = 0; s < counts.length; s++) c.due("COUNT of " + s, x.service(s, 10), counts[s]);
    }

    private static void getsAsItLacks() {
        c.of("Each gets as many as it lacks, or as there are to CAPACITY (all COUNTS together) then");
        int[][] rows = {{12, 12, 4, 5, 3}, {11, 11, 4, 5, 2}, {10, 10, 4, 5, 1}, {9, 9, 3, 5, 1}, {8, 8, 2, 5, 1}, {7, 7, 1, 5, 1},
            {6, 6, 1, 4, 1}, {4, 4, 1, 2, 1}, {3, 3, 1, 1, 1}, {13, 12, 4, 5, 3}, {60, 12, 4, 5, 3}};
        for (int[] row : rows) {
            EnoughServers x = three("h" + row[0] + ",3,1,0,4;", "1,9,3", "1,9,5", "1,9,2");
            loads(x, 4, 5, 3);
            places(x, 1, 0, 2);
            behind(x, row[1], row[2], row[3], row[4]);
        }
        EnoughServers most = three("h60,3,1,0,4;", "9,20,3", "9,20,5", "9,20,2");
        loads(most, 20, 20, 20);
        behind(most, 54, 18, 18, 18);
        behind(most, 60, 20, 20, 20);
        behind(most, 60, 20, 20, 20);
    }

    private static void capacityThen() {
        c.of("as there are to CAPACITY (all COUNTS together) then");
        EnoughServers x = three("h9,3,1,0,4;", "0,9,3", "0,9,5", "0,9,2");
        loads(x, 5, 4, 0);
        behind(x, 9, 5, 4, 0);
        // What one gives up in step 3 is there in step 4, whatever the numbers and RANKS.
        loads(x, 2, 4, 3);
        behind(x, 9, 2, 4, 3);
        loads(x, 4, 4, 1);
        behind(x, 9, 4, 4, 1);
        loads(x, 4, 3, 1);
        behind(x, 8, 4, 3, 1);
        // Those of the pool are of CAPACITY, too, and are not taken when there is no room.
        EnoughServers full = three("h3,3,9,0,4;", "1,9,3", "1,9,5", "1,9,2");
        loads(full, 9, 9, 9);
        behind(full, 3, 1, 1, 1);
        c.due("pool", full.count(3), 9);
    }

    private static void poolFirst() {
        c.of("of the pool first: these will be READY in R and 1; others in R and COLD");
        int[][] rows = {{0, 0, 4, 0, 3, 0}, {1, 1, 3, 0, 3, 0}, {3, 3, 1, 0, 3, 0}, {4, 4, 0, 0, 3, 0}, {5, 4, 0, 1, 2, 0},
            {7, 4, 0, 3, 0, 0}, {8, 4, 0, 3, 0, 1}, {9, 4, 0, 3, 0, 2}};
        for (int[] row : rows) {
            EnoughServers x = three("h60,3," + row[0] + ",0,4;", "0,9,3", "0,9,5", "0,9,2");
            loads(x, 3, 4, 0);
            behind(x, 7, 3, 4, 0);
            c.due("warm, of the higher RANK", x.starting(1, 1), row[1]);
            c.due("cold, of the higher RANK", x.starting(1, 3), row[2]);
            c.due("warm, of the other", x.starting(0, 1), row[3]);
            c.due("cold, of the other", x.starting(0, 3), row[4]);
            c.due("pool", x.count(3), row[5]);
        }
    }

    private static void readyInCold() {
        c.of("others in R and COLD");
        for (int cold = 1; cold <= 6; cold++) {
            EnoughServers x = Check.with("h60," + cold + ",2,0,4;s0,20,0,1,1,9,0,9,1;t1;");
            Check.rounds(x, 9);
            round(x, 5, 5);
            for (int r = 10; r <= 16; r++) {
                int due = (r == 10 ? 2 : 0) + (r == 9 + cold ? 3 : 0);
                c.due("COLD " + cold + ", in ROUND " + r, x.starting(0, r), due);
            }
        }
    }

    private static void poolRefills() {
        c.of("5 The pool has REFILL more, POOL at most.");
        for (int refill = 0; refill <= 3; refill++) {
            EnoughServers x = Check.with("h60,3,7," + refill + ",4;s0,20,0,1,1,9,0,9,1;t1;");
            round(x, 0, 0);
            c.due("pool, full", x.count(3), 7);
            round(x, 7, 7);
            // All 7 are taken, and the first come back in the same ROUND.
            for (int r = 1; r <= 9; r++) {
                c.due("pool " + r + " by " + refill, x.count(3), Math.min(7, refill * r));
                x.round();
            }
        }
        EnoughServers none = Check.with("h60,3,0,3,4;s0,20,0,1,1,9,0,9,1;t1;");
        round(none, 5, 5);
        c.due("POOL 0", none.count(3), 0);
        c.due("no warm one", none.starting(0, 1), 0);
        // What is given up does not come to the pool.
        EnoughServers back = Check.with("h60,3,5,0,4;s0,20,0,1,1,9,0,9,1;t1;");
        round(back, 5, 5);
        round(back, 0, 0);
        c.due("pool", back.count(3), 0);
    }

    private static void spentByCount() {
        c.of("by what it has now: SPENT becomes more by its COUNT");
        EnoughServers full = Check.with("h5,6,0,0,4;s2,20,0,1,1,9,0,9,1;t1;");
        round(full, 9, 5);
        c.due("SPENT, 9 are DUE, but there are 5", full.service(0, 13), 5);
        EnoughServers x = Check.with("h60,6,0,0,4;s2,20,0,1,1,9,0,9,1;t1;s0,20,0,1,1,9,0,9,1;t1;");
        int[] loads = {2, 7, 3, 9};
        int[] spent = {2, 9, 12, 21};
        c.due("SPENT", x.service(0, 13), 0);
        for (int i = 0; i < 4; i++) {
            x.load(0, 0, loads[i]);
            x.round();
            c.due("SPENT behind " + i, x.service(0, 13), spent[i]);
            c.due("SPENT of none", x.service(1, 13), 0);
        }
    }

    private static void lackByReady() {
        c.of("LACK by WANT less how many are READY, if that is more than 0");
        int[] lack = {0, 0, 0, 0, 1, 2, 3};
        for (int value = 0; value <= 6; value++) {
            EnoughServers x = one("3,20,0,1,6,9,0,9,1");
            x.load(0, 0, value);
            x.round();
            c.due("LACK by " + value, x.service(0, 14), lack[value]);
        }
        // What it has now, behind step 3: of 5 READY ones 3 are left.
        EnoughServers x = Check.with("h60,2,0,0,2;s5,20,0,1,1,9,0,9,1;t1;");
        x.set(0, 0, 0);
        x.set(0, 1, 3);
        round(x, 5, 3);
        c.due("READY now", x.service(0, 11), 3);
        c.due("LACK", x.service(0, 14), 2);
        // A WANT far above MOST lacks whole.
        EnoughServers far = one("3,4,0,1,1,9,0,9,1");
        round(far, 9999, 4);
        c.due("LACK", far.service(0, 14), 9996);
        round(far, 9999, 4);
        c.due("LACK", far.service(0, 14), 9996 + 9995);
        round(far, 0, 3);
        c.due("LACK does not become less", far.service(0, 14), 9996 + 9995);
        // Without MEASURES LEAST is wanted.
        EnoughServers none = Check.with("h60,2,0,0,2;s1,20,0,1,1,9,0,9,1;");
        none.set(0, 0, 4);
        Check.rounds(none, 3);
        c.due("LACK", none.service(0, 14), 6);
    }

    private static void flutters(int[] loads, int[] flutters) {
        EnoughServers x = one("0,20,0,1,1,9,99,9,1");
        for (int i = 0; i < loads.length; i++) {
            x.load(0, 0, loads[i]);
            x.round();
            c.due("FLUTTERS behind ROUND " + i, x.service(0, 15), flutters[i]);
        }
    }

    private static void flutters() {
        c.of("A SERVICE FLUTTERS (FLUTTERS become 1 more), if it got servers in this ROUND, and the last ROUND ahead in which "
            + "it got some, or gave some up, it gave some up; or the other way round.");
        flutters(new int[] {4, 6, 7}, new int[] {0, 0, 0});
        flutters(new int[] {4, 6, 5, 3, 4, 3, 3}, new int[] {0, 0, 1, 1, 2, 3, 3});
        // The first one it ever gives up, having got none.
        EnoughServers x = one("5,20,0,1,1,9,0,9,1");
        x.set(0, 0, 0);
        round(x, 4, 4);
        c.due("FLUTTERS", x.service(0, 15), 0);
        round(x, 5, 5);
        c.due("FLUTTERS", x.service(0, 15), 1);
    }

    private static void fluttersOverQuietRounds() {
        c.of("the last ROUND ahead in which it got some, or gave some up");
        flutters(new int[] {4, 4, 4, 4, 4, 4, 4, 4, 4, 4, 3}, new int[] {0, 0, 0, 0, 0, 0, 0, 0, 0, 0, 1});
        flutters(new int[] {4, 3, 3, 3, 3, 3, 3, 3, 3, 2, 2, 5}, new int[] {0, 1, 1, 1, 1, 1, 1, 1, 1, 1, 1, 2});
        // Longer ago than any PAST reaches.
        EnoughServers x = one("0,20,0,1,1,9,0,9,1");
        round(x, 4, 4);
        Check.rounds(x, 40);
        round(x, 3, 3);
        c.due("FLUTTERS", x.service(0, 15), 1);
    }

    private static void whoGetsNoneDoesNotFlutter() {
        c.of("if it got servers in this ROUND");
        EnoughServers x = three("h4,1,0,0,4;", "0,9,3", "0,9,5", "0,9,2");
        loads(x, 3, 1, 0);
        behind(x, 4, 3, 1, 0);
        loads(x, 2, 2, 0);
        behind(x, 4, 2, 2, 0);
        c.due("FLUTTERS", x.service(0, 15), 1);
        loads(x, 3, 2, 0);
        behind(x, 4, 2, 2, 0);
        c.due("it wanted to, but got none", x.service(0, 15), 1);
        loads(x, 3, 1, 0);
        behind(x, 4, 3, 1, 0);
        c.due("now it got one", x.service(0, 15), 2);
        c.due("the other gave one up", x.service(1, 15), 1);
        c.due("one that had nothing", x.service(2, 15), 0);
    }

    private static void oneRoundMore() {
        c.of("6 The PAST has one ROUND more, R is 1 more.");
        EnoughServers x = one("1,20,0,1,1,9,0,9,1");
        for (int r = 0; r < 20; r++) {
            c.due("R", x.count(0), r);
            c.due("ROUNDS of the PAST", x.measure(0, 0, 4), Math.min(r, 18));
            x.round();
        }
        c.due("R", x.count(0), 20);
    }

    private static void allCountsTogether() {
        c.of("A ROUND is done: all COUNTS, together. UNKNOWN.");
        c.due("round() without a HOUSE", new EnoughServers().round(), EnoughServers.UNKNOWN);
        EnoughServers x = three("h60,3,2,0,4;", "0,9,3", "0,9,5", "0,9,2");
        c.due("round() of none", x.round(), 0);
        loads(x, 9, 5, 2);
        behind(x, 16, 9, 5, 2);
        c.due("count(2)", x.count(2), 16);
    }
}
