/** Promises 1 to 4: a new object, write, house, fault. */
public final class TextTest {
    private static final Check c = new Check();
    private static final String HOUSE = "h9,3,1,1,4;";
    private static final String NUMBERS = "9,1,1,1,1,1,1,1;";
    private static final String ONE = HOUSE + "s1," + NUMBERS;

    public static void main(String[] args) {
        newObject();
        writing();
        full();
        goodTexts();
        cannotStandThere();
        numbersNotAsTold();
        tooMany();
        leastsTogether();
        leastFaultOfOneToken();
        aFaultChangesNothing();
        aNewHouse();
        c.end("TextTest");
    }

    private static void newObject() {
        EnoughServers x = new EnoughServers();
        c.due("fault()", x.fault(), 0);
        c.due("count(10)", x.count(10), 0);
        int u = EnoughServers.UNKNOWN;
        c.due("count(0)", x.count(0), u);
        c.due("count(11)", x.count(11), u);
        c.due("load", x.load(0, 0, 99999), u);
        c.due("set", x.set(0, 99, 0), u);
        c.due("round", x.round(), u);
        c.due("undo", x.undo(), u);
        c.due("service", x.service(0, 99), u);
        c.due("measure", x.measure(0, 0, 99), u);
        c.due("starting", x.starting(0, -5), u);
        c.due("would", x.would(0, 99), u);
        c.due("why", x.why(0, -1), u);
        c.due("forecast", x.forecast(0, 0, 99), u);
        c.due("ahead", x.ahead(0, 0), u);
        c.due("until", x.until(0, 0), u);
        c.due("needs", x.needs(0, 0, 100), u);
        c.due("replay", x.replay(0, 0, 0, 0), u);
        c.due("best", x.best(0), u);
    }

    private static void writing() {
        EnoughServers x = new EnoughServers();
        c.due("write(0)", x.write(0), 1);
        c.due("write(255)", x.write(255), 2);
        c.due("write(-1)", x.write(-1), EnoughServers.OUTSIDE);
        c.due("write(256)", x.write(256), EnoughServers.OUTSIDE);
        c.due("count(10)", x.count(10), 2);
        c.due("house(), byte 0 first", x.house(), -100);
        c.due("count(10), read", x.count(10), 0);
        c.due("write after reading", x.write('h'), 1);
    }

    private static void full() {
        EnoughServers x = new EnoughServers();
        Check.write(x, ONE);
        for (int i = ONE.length(); i < 159; i++) x.write(' ');
        c.due("the last byte", x.write(' '), 160);
        c.due("one more", x.write(' '), EnoughServers.FULL);
        c.due("one more, no byte", x.write(256), EnoughServers.OUTSIDE);
        c.due("count(10)", x.count(10), 160);
        c.due("house()", x.house(), 1);
        c.reads("9".repeat(160), -100, 1);
        c.reads("h" + "0".repeat(159), -101, 2);
        c.reads(" ".repeat(160), -260, 1);
    }

    private static void goodTexts() {
        c.reads(ONE, 1, 0);
        c.reads("  h 9 , 3,1 ,1,4 ;  s 01,09,1,1,1,1,1,1,1 ; t 5 ;  ", 1, 0);
        c.reads("h60,6,9,3,6;s9,20,9,6,6,9,99,9,4;t99;f99;a99;s9,9,0,1,1,0,0,0,1;q1;", 2, 0);
        c.reads("h1,1,0,0,2;s0,1,0,1,1,0,0,0,1;s1,1,0,1,1,0,0,0,1;s0,1,0,1,1,0,0,0,1;s0,1,0,1,1,0,0,0,1;", 4, 0);
        EnoughServers x = Check.with("h37,5,7,2,3;s2,18,4,5,6,8,67,3,2;t11;f22;a33;s1,9,0,1,1,0,0,0,1;q44;");
        int[] house = {37, 5, 7, 2, 3};
        for (int i = 0; i < 5; i++) c.due("count " + (4 + i), x.count(4 + i), house[i]);
        int[] service = {2, 18, 4, 5, 6, 8, 67, 3, 2, 3};
        for (int i = 0; i < 10; i++) c.due("service 0, " + i, x.service(0, i), service[i]);
        for (int i = 0; i < 3; i++) {
            c.due("kind", x.measure(0, i, 0), 1 + i);
            c.due("target", x.measure(0, i, 1), 11 * (1 + i));
        }
        c.due("kind of a queue", x.measure(1, 0, 0), 4);
        c.due("no such measure", x.measure(1, 1, 0), EnoughServers.UNKNOWN);
    }

    private static void cannotStandThere() {
        c.reads("", -100, 1);
        c.reads(" ", -101, 1);
        c.reads("H", -100, 1);
        c.reads("s", -100, 1);
        c.reads("h", -101, 1);
        c.reads("h;", -101, 1);
        c.reads("h9 ", -103, 1);
        c.reads("h9 9", -103, 1);
        c.reads("h9,3,1,1,4,", -110, 1);
        c.reads(HOUSE, -111, 1);
        c.reads(HOUSE + "  ", -113, 1);
        c.reads(HOUSE + "t", -111, 1);
        c.reads(HOUSE + "h", -111, 1);
        c.reads(HOUSE + "s-1", -112, 1);
        c.reads(HOUSE + "s1,9;", -115, 1);
        c.reads(ONE + "x", -130, 1);
        c.reads(ONE + "h", -130, 1);
        c.reads(ONE + ";", -130, 1);
        c.reads(ONE + "7", -130, 1);
        c.reads(ONE + "t", -131, 1);
        c.reads(ONE + "t;", -131, 1);
        c.reads(ONE + "t5", -132, 1);
        c.reads(ONE + "t5,", -132, 1);
        c.reads(ONE + "t5; s", -135, 1);
        c.reads("h9\t", -102, 1);
    }

    private static void numbersNotAsTold() {
        c.reads("h0,", -101, 2);
        c.reads("h61,", -101, 2);
        c.reads("h001,", -101, 2);
        c.reads("h 060", -102, 2);
        c.reads("h9,0", -103, 2);
        c.reads("h9,7", -103, 2);
        c.reads("h9,1,10", -105, 2);
        c.reads("h9,1,1,4", -107, 2);
        c.reads("h9,1,1,1,1", -109, 2);
        c.reads("h9,1,1,1,7", -109, 2);
        c.reads(HOUSE + "s10,", -112, 2);
        c.reads(HOUSE + "s0,0", -114, 2);
        c.reads(HOUSE + "s3,2", -114, 2);
        c.reads(HOUSE + "s3,21", -114, 2);
        c.reads(HOUSE + "s3,3,10", -116, 2);
        c.reads(HOUSE + "s3,3,1,0", -118, 2);
        c.reads(HOUSE + "s3,3,1,7", -118, 2);
        c.reads(HOUSE + "s3,3,1,1,0", -120, 2);
        c.reads(HOUSE + "s3,3,1,1,7", -120, 2);
        c.reads(HOUSE + "s3,3,1,1,1,10", -122, 2);
        c.reads(HOUSE + "s3,3,1,1,1,1,100", -124, 2);
        c.reads(HOUSE + "s3,3,1,1,1,1,1,10", -126, 2);
        c.reads(HOUSE + "s3,3,1,1,1,1,1,1,0", -128, 2);
        c.reads(HOUSE + "s3,3,1,1,1,1,1,1,5", -128, 2);
        c.reads(ONE + "t0;", -131, 2);
        c.reads(ONE + "q100;", -131, 2);
        c.reads(ONE + "a005;", -131, 2);
    }

    private static void tooMany() {
        c.reads(ONE + "t1;f1;a1;q1;", -139, 3);
        c.reads(ONE + "t1;f1;a1;  q", -141, 3);
        String four = HOUSE;
        for (int i = 0; i < 4; i++) four += "s1," + NUMBERS;
        c.reads(four, 4, 0);
        c.reads(four + "s", -100 - four.length(), 3);
        c.reads(four + "t1;t1;t1;", 4, 0);
        c.reads(four + "t1;t1;t1;s", -100 - four.length() - 9, 3);
        c.reads(four + "t1;t1;t1;t", -100 - four.length() - 9, 3);
        c.reads(four + "t1;t1;t1;x", -100 - four.length() - 9, 1);
    }

    private static void leastsTogether() {
        c.reads("h4,3,1,1,4;s5,9", -112, 4);
        c.reads(HOUSE + "s5," + NUMBERS + "s4," + NUMBERS, 2, 0);
        c.reads(HOUSE + "s5," + NUMBERS + "s5,x", -131, 4);
        c.reads(HOUSE + "s4," + NUMBERS + "t1;s3," + NUMBERS + "s3," + NUMBERS, -153, 4);
    }

    private static void leastFaultOfOneToken() {
        c.reads("123", -100, 1);
        c.reads("h1,1,0,0,2;s10", -112, 2);
        c.reads("h9,77,", -103, 2);
        c.reads(ONE + "123", -130, 1);
    }

    private static void aFaultChangesNothing() {
        EnoughServers x = Check.with(ONE + "t5;");
        x.load(0, 0, 12);
        x.round();
        c.due("a wrong text", Check.read(x, "h9,3,1,1,4;s5,4,"), -114);
        c.due("fault()", x.fault(), 2);
        c.due("count(0)", x.count(0), 1);
        c.due("count(4)", x.count(4), 9);
        c.due("the value", x.measure(0, 0, 2), 12);
        c.due("count(9)", x.count(9), 2);
        c.due("undo()", x.undo(), 1);
        c.due("a right text", Check.read(x, ONE), 1);
        c.due("fault() behind a right text", x.fault(), 0);
        c.due("nothing written", x.house(), -100);
        c.due("fault() of an empty text", x.fault(), 1);
        c.due("the house stays", x.count(1), 1);
    }

    private static void aNewHouse() {
        EnoughServers x = Check.with("h9,3,4,1,4;s3," + NUMBERS + "t5;");
        x.load(0, 0, 45);
        Check.rounds(x, 5);
        x.set(0, 2, 7);
        c.due("a new house", Check.read(x, "h20,2,5,0,2;s2,9,1,1,1,1,1,1,1;t5;s0,9,1,1,1,1,1,1,1;"), 2);
        c.due("ROUND 0", x.count(0), 0);
        c.due("servers", x.count(2), 2);
        c.due("pool", x.count(3), 5);
        c.due("nothing to undo", x.count(9), 0);
        c.due("undo()", x.undo(), EnoughServers.NOT);
        c.due("LEAST servers", x.service(0, 10), 2);
        c.due("all READY", x.service(0, 11), 2);
        c.due("none STARTING", x.service(0, 12), -1);
        c.due("SPENT", x.service(0, 13), 0);
        c.due("LACK", x.service(0, 14), 0);
        c.due("FLUTTERS", x.service(0, 15), 0);
        c.due("it MISSES", x.measure(0, 0, 2), -1);
        c.due("no PAST", x.measure(0, 0, 4), 0);
        c.due("no ROUND in it", x.measure(0, 0, 10), EnoughServers.OUTSIDE);
        c.due("no FORECAST", x.forecast(0, 0, 1), 0);
        c.due("no REPLAY", x.replay(0, 1, 1, 0), 0);
    }
}
