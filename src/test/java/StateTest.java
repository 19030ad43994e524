/** Promises 9 to 12: service, measure, starting, count. */
public final class StateTest {
    private static final Check c = new Check();
    private static final int UNKNOWN = EnoughServers.UNKNOWN, OUTSIDE = EnoughServers.OUTSIDE;
    private static final String TWO = "h20,3,2,1,4;s2,9,3,1,2,9,0,9,1;t5;q7;s1,4,0,1,1,1,1,1,1;";

    public static void main(String[] args) {
        services();
        measures();
        pastOfEighteen();
        starting();
        counts();
        c.end("StateTest");
    }

    private static void services() {
        EnoughServers x = Check.with(TWO);
        int[] at = {2, 9, 3, 1, 2, 9, 0, 9, 1, 2, 2, 2, -1, 0, 0, 0};
        for (int i = 0; i < 16; i++) c.due("service(0, " + i + ")", x.service(0, i), at[i]);
        c.due("no measures", x.service(1, 9), 0);
        x.load(0, 0, 30);
        x.load(0, 1, 1);
        x.round();
        int[] behind = {2, 9, 3, 1, 2, 9, 0, 9, 1, 2, 6, 2, 1, 6, 4, 0};
        for (int i = 0; i < 16; i++) c.due("service(0, " + i + ") behind a round", x.service(0, i), behind[i]);
        x.round();
        c.due("READY, the two of the pool", x.service(0, 11), 4);
        c.due("the next ones", x.service(0, 12), 3);
        c.due("what below", x.service(0, -1), OUTSIDE);
        c.due("what above", x.service(0, 16), OUTSIDE);
        c.due("no service", x.service(2, 16), UNKNOWN);
        c.due("no service below", x.service(-1, 0), UNKNOWN);
    }

    private static void measures() {
        EnoughServers x = Check.with(TWO);
        int[] at = {4, 7, -1, 2, 0};
        for (int i = 0; i < 5; i++) c.due("measure(0, 1, " + i + ")", x.measure(0, 1, i), at[i]);
        c.due("no round yet", x.measure(0, 1, 10), OUTSIDE);
        x.load(0, 1, 15);
        c.due("its WANT", x.measure(0, 1, 3), 4);
        x.round();
        x.load(0, 1, -1);
        x.round();
        x.load(0, 1, 0);
        c.due("value", x.measure(0, 1, 2), 0);
        c.due("rounds", x.measure(0, 1, 4), 2);
        c.due("the latest", x.measure(0, 1, 10), -1);
        c.due("the one before", x.measure(0, 1, 11), 15);
        c.due("none before", x.measure(0, 1, 12), OUTSIDE);
        int[] wrong = {-1, 5, 6, 7, 8, 9, 28, Integer.MAX_VALUE, Integer.MIN_VALUE};
        for (int what : wrong) c.due("what " + what, x.measure(0, 1, what), OUTSIDE);
        c.due("no measure", x.measure(0, 2, 99), UNKNOWN);
        c.due("no measure below", x.measure(0, -1, 0), UNKNOWN);
        c.due("no measures", x.measure(1, 0, 0), UNKNOWN);
        c.due("no service", x.measure(2, 0, 0), UNKNOWN);
        c.due("no service below", x.measure(-1, 0, 0), UNKNOWN);
    }

    private static void pastOfEighteen() {
        for (int rounds = 1; rounds <= 70; rounds++) {
            EnoughServers x = Check.with(TWO);
            for (int i = 0; i < rounds; i++) {
                x.load(0, 0, i);
                x.round();
            }
            c.due("rounds", x.measure(0, 0, 4), Math.min(18, rounds));
            for (int k = 0; k < 18; k++) {
                c.due("value " + k + " ahead", x.measure(0, 0, 10 + k), k < rounds ? rounds - 1 - k : OUTSIDE);
            }
            c.due("no nineteenth", x.measure(0, 0, 28), OUTSIDE);
        }
    }

    private static void starting() {
        EnoughServers x = Check.with(TWO);
        x.load(0, 0, 30);
        x.round();
        int[] at = {2, 0, 2, 0, 0, 0, 0};
        for (int i = 0; i < 7; i++) c.due("starting in " + (1 + i), x.starting(0, 1 + i), at[i]);
        c.due("a round that was", x.starting(0, 0), OUTSIDE);
        c.due("too far", x.starting(0, 8), OUTSIDE);
        c.due("far below", x.starting(0, Integer.MIN_VALUE), OUTSIDE);
        c.due("far above", x.starting(0, Integer.MAX_VALUE), OUTSIDE);
        c.due("the other one", x.starting(1, 1), 0);
        c.due("no service", x.starting(2, 0), UNKNOWN);
        c.due("no service below", x.starting(-1, 1), UNKNOWN);
        Check.rounds(x, 40);
        c.due("none", x.starting(0, 41), 0);
        c.due("the last that is told", x.starting(0, 47), 0);
        c.due("too far", x.starting(0, 48), OUTSIDE);
        c.due("before", x.starting(0, 40), OUTSIDE);
    }

    private static void counts() {
        EnoughServers x = Check.with(TWO);
        x.write('h');
        int[] at = {0, 2, 3, 2, 20, 3, 2, 1, 4, 0, 1};
        for (int i = 0; i < 11; i++) c.due("count(" + i + ")", x.count(i), at[i]);
        x.load(0, 0, 30);
        x.round();
        int[] behind = {1, 2, 7, 1, 20, 3, 2, 1, 4, 2, 1};
        for (int i = 0; i < 11; i++) c.due("count(" + i + ") behind a round", x.count(i), behind[i]);
        c.due("below", x.count(-1), OUTSIDE);
        c.due("above", x.count(11), OUTSIDE);
        EnoughServers y = new EnoughServers();
        y.write('h');
        c.due("bytes without a house", y.count(10), 1);
        c.due("no house", y.count(-1), UNKNOWN);
    }
}
