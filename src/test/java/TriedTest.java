/** Promises 13 to 18: would, why, forecast, ahead, until, needs. None of them changes anything. */
public final class TriedTest {
    private static final Check c = new Check();
    private static final int UNKNOWN = EnoughServers.UNKNOWN, OUTSIDE = EnoughServers.OUTSIDE, NONE = EnoughServers.NONE;

    public static void main(String[] args) {
        would();
        whyFourCauses();
        whySomeCauses();
        forecasts();
        forecastsFarBack();
        ahead();
        until();
        needs();
        needsOfAnAverage();
        needsByTrying();
        refusals();
        nothingChanges();
        c.end("TriedTest");
    }

    private static void would() {
        EnoughServers x = Check.with("h20,2,2,1,3;s1,4,5,1,3,2,50,2,1;t10;");
        x.load(0, 0, 75);
        int[] at = {8, 8, 3, 3, 3, 0};
        for (int i = 0; i < 6; i++) c.due("would(0, " + i + ")", x.would(0, i), at[i]);
        x.round();
        int[] next = {8, 8, 5, 4, 4, 0};
        for (int i = 0; i < 6; i++) c.due("would(0, " + i + ") next", x.would(0, i), next[i]);
        x.round();
        c.due("no place at DUE", x.would(0, 5), NONE);
        EnoughServers y = Check.with("h20,1,0,0,3;s1,9,5,1,1,9,0,9,1;a10;");
        y.load(0, 0, 40);
        y.round();
        c.due("those that start are READY behind step 1", y.would(0, 0), 16);
        c.due("but are not yet", y.service(0, 11), 1);
    }

    /** What holds it: UP of 2 rounds, ADD 1, LEAST that was raised, a house that another has filled. */
    private static void whyFourCauses() {
        EnoughServers x = Check.with("h6,2,0,0,3;s2,9,1,2,1,1,0,9,1;t1;s0,9,5,1,1,9,0,9,1;t1;");
        x.load(0, 0, 4);
        x.load(1, 0, 4);
        c.due("round()", x.round(), 6);
        x.load(0, 0, 9);
        x.set(0, 0, 5);
        int[] plan = {9, 4, 3, 5, 2, 0};
        for (int i = 0; i < 6; i++) c.due("would(0, " + i + ")", x.would(0, i), plan[i]);
        for (int i = 0; i < 4; i++) c.due("why(0, " + i + ")", x.why(0, i), 4 - i);
        c.due("no fifth", x.why(0, 4), NONE);
        c.due("far above", x.why(0, Integer.MAX_VALUE), NONE);
        c.due("the other has none", x.why(1, 0), NONE);
        x.load(1, 0, 1);
        c.due("the house has some again", x.why(0, 0), 3);
        x.set(0, 0, 3);
        c.due("LEAST as BOUND", x.why(0, 0), 2);
        c.due("and the window", x.why(0, 1), 1);
        c.due("no more", x.why(0, 2), NONE);
    }

    private static void whySomeCauses() {
        EnoughServers x = Check.with("h3,2,0,0,3;s1,9,1,1,2,9,0,1,1;t1;");
        x.load(0, 0, 5);
        c.due("the house alone", x.why(0, 0), 4);
        c.due("nothing else", x.why(0, 1), NONE);
        x.round();
        x.load(0, 0, 0);
        // The greatest of 5 and 0 is above COUNT.
        c.due("the window alone", x.why(0, 0), 1);
        x.round();
        c.due("STEADY 0, FLOOR 2", x.why(0, 0), 2);
        c.due("nothing else", x.why(0, 1), NONE);
        x.round();
        x.round();
        c.due("LEAST", x.why(0, 0), 3);
        c.due("nothing else", x.why(0, 1), NONE);
        c.due("below 0", x.why(0, -1), OUTSIDE);
    }

    private static void forecasts() {
        EnoughServers x = Check.with("h20,2,0,0,3;s1,9,5,1,3,2,50,2,1;t10;q1;");
        int[] loads = {10, 20, 31, 40, -1, 61, 70, 80, 90};
        for (int h = 0; h <= 12; h++) c.due("no PAST", x.forecast(0, 0, h), 0);
        for (int value : loads) {
            x.load(0, 0, value);
            x.round();
        }
        // R is 9: by 0 of rounds 6, 3, 0; by 1 of 7, (4 MISSED), 1; by 2 of 8, 5, 2; by 3 of 6, 3; then 7; 8, 5; 6; 7; 8.
        int[] due = {40, 50, 61, 55, 80, 76, 70, 80, 90, 0, 0, 0, 0};
        for (int h = 0; h <= 12; h++) c.due("forecast by " + h, x.forecast(0, 0, h), due[h]);
        c.due("all MISSED", x.forecast(0, 1, 0), 0);
    }

    private static void forecastsFarBack() {
        EnoughServers x = Check.with("h20,2,0,0,6;s1,9,5,1,3,2,50,2,1;t10;");
        for (int i = 0; i < 40; i++) {
            x.load(0, 0, i * i);
            x.round();
        }
        c.due("rounds 34, 28, 22", x.forecast(0, 0, 0), (34 * 34 + 28 * 28 + 22 * 22 + 2) / 3);
        c.due("rounds 39, 33, 27", x.forecast(0, 0, 5), (39 * 39 + 33 * 33 + 27 * 27 + 2) / 3);
        c.due("rounds 34, 28", x.forecast(0, 0, 6), (34 * 34 + 28 * 28 + 1) / 2);
        c.due("round 34", x.forecast(0, 0, 12), 34 * 34);
    }

    private static EnoughServers slow() {
        EnoughServers x = Check.with("h20,3,0,0,2;s1,20,0,1,1,2,0,9,1;t1;s1,9,0,1,1,1,1,1,1;");
        x.load(0, 0, 6);
        return x;
    }

    private static void ahead() {
        EnoughServers x = slow();
        int[] counts = {4, 6, 7, 7, 7, 7};
        int[] spent = {4, 10, 17, 24, 31, 38};
        int[] lack = {5, 10, 15, 18, 19, 19};
        for (int n = 1; n <= 6; n++) {
            c.due("COUNTS behind " + n, x.ahead(n, 0), counts[n - 1]);
            c.due("SPENT in " + n, x.ahead(n, 1), spent[n - 1]);
            c.due("LACK in " + n, x.ahead(n, 2), lack[n - 1]);
        }
        c.due("SPENT in 50", x.ahead(50, 1), 17 + 47 * 7);
        x.round();
        c.due("only what is spent in them", x.ahead(1, 1), 6);
        c.due("only what is lacked in them", x.ahead(1, 2), 5);
        EnoughServers y = Check.with("h20,3,6,1,2;s0,20,0,1,1,9,0,9,1;t1;");
        y.load(0, 0, 4);
        c.due("pool", y.ahead(1, 3), 3);
        c.due("pool behind 3", y.ahead(3, 3), 5);
        c.due("pool behind 50", y.ahead(50, 3), 6);
        c.due("pool now", y.count(3), 6);
    }

    private static void until() {
        EnoughServers x = slow();
        int[] due = {1, 3, 3, 4, 4, 5, NONE};
        for (int n = 1; n <= 7; n++) c.due("until " + n, x.until(0, n), due[n - 1]);
        c.due("the other", x.until(1, 1), 1);
        c.due("never", x.until(1, 2), NONE);
        EnoughServers y = Check.with("h60,1,0,0,2;s0,20,0,1,1,1,0,9,4;t1;");
        y.load(0, 0, 20);
        // One in four rounds, READY in the next one: the 13th in round 48, the first behind round 0.
        c.due("the thirteenth", y.until(0, 13), 49);
        c.due("the fourteenth", y.until(0, 14), NONE);
        EnoughServers z = Check.with("h60,2,0,0,2;s0,20,0,1,1,1,0,9,4;t1;");
        z.load(0, 0, 20);
        c.due("in the last round that is looked at", z.until(0, 13), 50);
        EnoughServers late = Check.with("h60,3,0,0,2;s0,20,0,1,1,1,0,9,4;t1;");
        late.load(0, 0, 20);
        c.due("in the one behind it", late.until(0, 13), NONE);
    }

    private static void needs() {
        EnoughServers x = Check.with("h20,3,0,0,2;s3,20,0,1,1,2,0,9,1;t7;q4;f5;");
        c.due("others MISS, want 3", x.needs(0, 0, 3), 0);
        c.due("total", x.needs(0, 0, 4), 22);
        c.due("total of 99", x.needs(0, 0, 99), 98 * 7 + 1);
        c.due("queue", x.needs(0, 1, 4), 5);
        c.due("queue of 6", x.needs(0, 1, 6), 13);
        c.due("foreseen", x.needs(0, 2, 5), 21);
        c.due("none", x.needs(0, 2, 0), 0);
        EnoughServers y = Check.with("h20,3,0,0,2;s3,20,0,1,1,2,0,9,1;q99;");
        c.due("a queue of 0 wants 2", y.needs(0, 0, 2), 0);
        c.due("a queue of 1 wants 3", y.needs(0, 0, 3), 1);
        c.due("a queue wants 4", y.needs(0, 0, 4), 100);
        c.due("a queue wants 99", y.needs(0, 0, 99), 96 * 99 + 1);
        EnoughServers z = Check.with("h20,1,0,0,2;s3,20,0,1,1,2,0,9,1;f10;");
        z.load(0, 0, 45);
        z.round();
        c.due("the forecast is enough", z.needs(0, 0, 5), 0);
        c.due("the forecast is not", z.needs(0, 0, 6), 51);
    }

    private static void needsOfAnAverage() {
        EnoughServers x = Check.with("h20,3,0,0,2;s3,20,0,1,1,9,0,9,1;a50;");
        c.due("1", x.needs(0, 0, 1), 1);
        c.due("2", x.needs(0, 0, 2), 17);
        c.due("3", x.needs(0, 0, 3), 34);
        c.due("4, above what is near", x.needs(0, 0, 4), 56);
        c.due("5", x.needs(0, 0, 5), 67);
        x.load(0, 0, 110);
        x.round();
        // 7 are there, 3 of them READY: near the target it wants all 7, a little above it 4 again.
        c.due("3", x.needs(0, 0, 3), 34);
        c.due("4, near", x.needs(0, 0, 4), 45);
        c.due("7, near", x.needs(0, 0, 7), 45);
        c.due("8, far above", x.needs(0, 0, 8), 117);
        EnoughServers y = Check.with("h20,3,0,0,2;s0,20,0,1,1,9,0,9,1;a99;");
        c.due("none READY", y.needs(0, 0, 99), 98 * 99 + 1);
    }

    /** Every VALUE told, for every TARGET and KIND, with servers that are READY, and with such that are STARTING. */
    private static void needsByTrying() {
        for (int target = 1; target <= 99; target++) {
            for (char sort : new char[] {'t', 'a', 'q'}) {
                for (int least = 0; least <= 4; least += 2) {
                    String text = "h20,3,0,0,2;s" + least + ",20,0,1,1,3,0,9,1;" + sort + target + ";";
                    tryAll(x -> Check.read(x, text));
                    tryAll(x -> {
                        Check.read(x, text);
                        x.load(0, 0, 800);
                        x.round();
                    });
                }
            }
        }
    }

    /** A new object for every hundred VALUES: none is used for more than 512 calls. */
    private static void tryAll(Seen.Calls calls) {
        EnoughServers x = new EnoughServers();
        int n = 0;
        for (int value = 0; value <= 250; value++) {
            if (value % 100 == 0) {
                x = new EnoughServers();
                calls.on(x);
            }
            x.load(0, 0, value);
            for (int want = x.would(0, 0); n <= want && n <= 99; n++) c.due("needs " + n, x.needs(0, 0, n), value);
        }
    }

    private static void refusals() {
        EnoughServers x = slow();
        int[] services = {-1, 2};
        for (int s : services) {
            c.due("would", x.would(s, 9), UNKNOWN);
            c.due("why", x.why(s, -1), UNKNOWN);
            c.due("forecast", x.forecast(s, 0, 13), UNKNOWN);
            c.due("until", x.until(s, 0), UNKNOWN);
            c.due("needs", x.needs(s, 0, 100), UNKNOWN);
        }
        c.due("forecast, no measure", x.forecast(0, 1, 13), UNKNOWN);
        c.due("forecast, no measure below", x.forecast(0, -1, 0), UNKNOWN);
        c.due("needs, no measure", x.needs(0, 1, 100), UNKNOWN);
        c.due("needs, no measures", x.needs(1, 0, 0), UNKNOWN);
        c.due("would below", x.would(0, -1), OUTSIDE);
        c.due("would above", x.would(0, 6), OUTSIDE);
        c.due("forecast below", x.forecast(0, 0, -1), OUTSIDE);
        c.due("forecast above", x.forecast(0, 0, 13), OUTSIDE);
        c.due("ahead 0", x.ahead(0, 0), OUTSIDE);
        c.due("ahead 51", x.ahead(51, 0), OUTSIDE);
        c.due("ahead what below", x.ahead(1, -1), OUTSIDE);
        c.due("ahead what above", x.ahead(1, 4), OUTSIDE);
        c.due("until 0", x.until(0, 0), OUTSIDE);
        c.due("until 21", x.until(0, 21), OUTSIDE);
        c.due("needs below", x.needs(0, 0, -1), OUTSIDE);
        c.due("needs above", x.needs(0, 0, 100), OUTSIDE);
    }

    private static void nothingChanges() {
        EnoughServers x = slow();
        EnoughServers y = slow();
        Check.rounds(x, 3);
        Check.rounds(y, 3);
        x.would(0, 4);
        x.why(0, 0);
        x.forecast(0, 0, 1);
        x.ahead(30, 0);
        x.until(0, 20);
        x.needs(0, 0, 50);
        x.replay(0, 2, 3, 0);
        x.best(0);
        for (int i = 0; i <= 15; i++) c.due("service " + i, x.service(0, i), y.service(0, i));
        for (int i = 0; i <= 27; i++) c.due("measure " + i, x.measure(0, 0, i), y.measure(0, 0, i));
        for (int i = 0; i <= 10; i++) c.due("count " + i, x.count(i), y.count(i));
        for (int i = 3; i <= 9; i++) c.due("starting " + i, x.starting(0, i), y.starting(0, i));
    }
}
