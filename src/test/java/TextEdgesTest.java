/** Section 1 of the terms and promises 1 to 4, edge by edge: each method names the words that it is for. */
public final class TextEdgesTest {
    private static final Check c = new Check();
    private static final int UNKNOWN = EnoughServers.UNKNOWN, OUTSIDE = EnoughServers.OUTSIDE, FULL = EnoughServers.FULL;
    private static final int[] HOUSE = {36, 3, 1, 1, 4};
    private static final int[] SERVICE = {1, 9, 1, 1, 1, 1, 1, 1, 1};
    private static final String ONE = row('h', HOUSE) + row('s', SERVICE);

    public static void main(String[] args) {
        noHouse();
        bytesAtMost();
        figuresAsLongAsTheyGo();
        blanksAreNothing();
        onlyBlanksAreBlanks();
        everyByteInEveryPlace();
        houseNumbers();
        serviceNumbers();
        mostNotLessThanLeast();
        services();
        measures();
        sorts();
        targets();
        theFirstToken();
        theLeastOfOneToken();
        theEndTooSoon();
        moreThanTwoDigits();
        moreThanTold();
        leastsTogether();
        leastsOfThisTextAlone();
        emptyInAnyCase();
        nothingIsLeftOfALongerText();
        inPlaceOfTheOneBefore();
        allStays();
        aByte();
        howManyServices();
        placeOfTheFault();
        theLatestFault();
        c.end("TextEdgesTest");
    }

    private static String row(char letter, int... numbers) {
        StringBuilder s = new StringBuilder().append(letter);
        for (int i = 0; i < numbers.length; i++) s.append(i == 0 ? "" : ",").append(numbers[i]);
        return s.append(';').toString();
    }

    private static int[] with(int[] numbers, int at, int value) {
        int[] changed = numbers.clone();
        changed[at] = value;
        return changed;
    }

    private static int placeOfFigures(String text, int n) {
        int seen = -1;
        for (int i = 0; i < text.length(); i++) {
            boolean begins = Character.isDigit(text.charAt(i)) && (i == 0 || !Character.isDigit(text.charAt(i - 1)));
            if (begins && ++seen == n) return i;
        }
        throw new IllegalStateException("no figures " + n + " in " + text);
    }

    private static void noHouse() {
        c.of("`EnoughServers()`: No HOUSE.");
        EnoughServers x = new EnoughServers();
        for (int what = -2; what <= 12; what++) c.due("count(" + what + ")", x.count(what), what == 10 ? 0 : UNKNOWN);
        c.due("fault()", x.fault(), 0);
        c.due("load(0, 0, 0)", x.load(0, 0, 0), UNKNOWN);
        c.due("set(0, 2, 1)", x.set(0, 2, 1), UNKNOWN);
        c.due("round()", x.round(), UNKNOWN);
        c.due("undo()", x.undo(), UNKNOWN);
        c.due("service(0, 0)", x.service(0, 0), UNKNOWN);
        c.due("measure(0, 0, 0)", x.measure(0, 0, 0), UNKNOWN);
        c.due("starting(0, 0)", x.starting(0, 0), UNKNOWN);
        c.due("would(0, 0)", x.would(0, 0), UNKNOWN);
        c.due("why(0, 0)", x.why(0, 0), UNKNOWN);
        c.due("forecast(0, 0, 0)", x.forecast(0, 0, 0), UNKNOWN);
        c.due("ahead(1, 0)", x.ahead(1, 0), UNKNOWN);
        c.due("until(0, 1)", x.until(0, 1), UNKNOWN);
        c.due("needs(0, 0, 0)", x.needs(0, 0, 0), UNKNOWN);
        c.due("replay(0, 1, 1, 0)", x.replay(0, 1, 1, 0), UNKNOWN);
        c.due("best(0)", x.best(0), UNKNOWN);
        c.due("house()", Check.read(x, ONE), 1);
        c.due("count(0), a HOUSE now", x.count(0), 0);
    }

    /** The last byte of 160 is needed: a text that ended before it would have a fault. */
    private static void bytesAtMost() {
        c.of("THE TEXT is a row of bytes, 160 at most.");
        String end = row('s', SERVICE) + "t5;";
        String whole = row('h', HOUSE) + " ".repeat(160 - 12 - end.length()) + end;
        c.due("bytes of the test's text", whole.length(), 160);
        EnoughServers x = new EnoughServers();
        for (int i = 0; i < 160; i++) c.due("write, byte " + i, x.write(whole.charAt(i)), i + 1);
        c.due("the 161st byte", x.write('x'), FULL);
        c.due("a blank as the 161st byte", x.write(' '), FULL);
        c.due("count(10)", x.count(10), 160);
        c.due("house()", x.house(), 1);
        c.due("measures", x.service(0, 9), 1);
        c.due("there is room again", x.write('h'), 1);
        EnoughServers y = new EnoughServers();
        Check.write(y, whole.substring(0, 159));
        c.due("count(10) of 159", y.count(10), 159);
        c.due("house() of 159", y.house(), -259);
        c.due("fault() of 159", y.fault(), 1);
        EnoughServers z = new EnoughServers();
        c.due("the 161st is not read", Check.read(z, whole + "s"), 1);
    }

    private static void figuresAsLongAsTheyGo() {
        c.of("TOKENS: figures (a row of digits, as long as it goes), any other byte");
        c.reads("h36,3,1,1,4;s1,9,1,1,1,1,1,1,1;", 1, 0);
        c.reads("h3 6,3,1,1,4;s1,9,1,1,1,1,1,1,1;", -103, 1);
        c.reads("h" + "0".repeat(159), -101, 2);
        c.reads("1".repeat(160), -100, 1);
        c.reads("h36/3", -103, 1);
        c.reads("h36:3", -103, 1);
        c.reads("h/", -101, 1);
        c.reads("h:", -101, 1);
        int[] targets = {1, 23, 45, 67, 89, 90};
        EnoughServers x = Check.with(ONE + "t01;t23;t45;" + row('s', SERVICE) + "t67;t89;t90;");
        for (int i = 0; i < 6; i++) c.due("TARGET " + targets[i], x.measure(i / 3, i % 3, 1), targets[i]);
    }

    private static void blanksAreNothing() {
        c.of("blanks (32) between are nothing");
        c.alike("blanks between all TOKENS",
            x -> Check.read(x, "h36,3,1,1,4;s1,9,1,1,1,1,1,1,1;t55;"),
            x -> Check.read(x, "  h 36 , 3 , 1 , 1 , 4 ; s  1 , 9 , 1 , 1 , 1 , 1 , 1 , 1 , 1 ; t   55 ; "));
        c.reads(" " + ONE, 1, 0);
        c.reads(ONE + " ", 1, 0);
        c.reads(ONE + " ".repeat(160 - ONE.length()), 1, 0);
        c.reads(" ".repeat(160 - ONE.length()) + ONE, 1, 0);
        c.reads(ONE + "t5 5;", -134, 1);
    }

    private static void onlyBlanksAreBlanks() {
        c.of("blanks (32)");
        int[] others = {0, 9, 10, 13, 31, 33, 127, 128, 160, 255};
        for (int b : others) {
            c.reads((char) b + ONE, -100, 1);
            c.reads(ONE + (char) b, -131, 1);
            c.reads("h" + (char) b + "36,", -101, 1);
            c.reads("h3" + (char) b + "6,", -102, 1);
        }
    }

    /** Each byte of a text that has every KIND of TOKEN becomes each other one; the model reads it otherwise. */
    private static void everyByteInEveryPlace() {
        c.of("FAULTS, the first TOKEN that has one");
        String text = "h19,1,0,0,2;s0,1,0,1,1,0,0,0,1; t10;a9;s9,20,9,6,6,9,99,9,4;q1;";
        for (int place = 0; place < text.length(); place++) {
            for (int b = 0; b < 256; b++) {
                StringBuilder other = new StringBuilder(text);
                other.setCharAt(place, (char) b);
                EnoughServers x = new EnoughServers();
                Model model = new Model();
                for (int i = 0; i < other.length(); i++) model.write(other.charAt(i));
                c.due("house() of " + other, Check.read(x, other.toString()), model.house());
                c.due("fault() of " + other, x.fault(), model.fault());
            }
        }
    }

    private static void houseNumbers() {
        c.of("h CAPACITY , COLD , POOL , REFILL , SEASON ; (1 to 60; 1 to 6; 0 to 9; 0 to 3; 2 to 6)");
        int[] from = {1, 1, 0, 0, 2};
        int[] to = {60, 6, 9, 3, 6};
        for (int i = 0; i < 5; i++) {
            for (int v : new int[] {from[i], from[i] + 1, to[i] - 1, to[i]}) {
                EnoughServers x = Check.with(row('h', with(HOUSE, i, v)) + row('s', SERVICE));
                for (int k = 0; k < 5; k++) c.due("number " + i + " " + v + ", count(4 + " + k + ")", x.count(4 + k), k == i ? v : HOUSE[k]);
            }
            for (int v : new int[] {from[i] - 1, to[i] + 1}) {
                String text = row('h', with(HOUSE, i, v)) + row('s', SERVICE);
                if (v >= 0) c.reads(text, -100 - placeOfFigures(text, i), 2);
            }
        }
    }

    private static void serviceNumbers() {
        c.of("s LEAST , MOST , RANK , UP , DOWN , ADD , PERCENT , DROP , PERIOD ; { MEASURE } "
            + "(0 to 9; 1 to 20, not less than LEAST; 0 to 9; 1 to 6; 1 to 6; 0 to 9; 0 to 99; 0 to 9; 1 to 4)");
        int[] from = {0, 1, 0, 1, 1, 0, 0, 0, 1};
        int[] to = {9, 20, 9, 6, 6, 9, 99, 9, 4};
        for (int i = 0; i < 9; i++) {
            for (int v : new int[] {from[i], from[i] + 1, to[i] - 1, to[i]}) {
                EnoughServers x = Check.with(row('h', HOUSE) + row('s', with(SERVICE, i, v)));
                for (int k = 0; k < 9; k++) c.due("number " + i + " " + v + ", service(0, " + k + ")", x.service(0, k), k == i ? v : SERVICE[k]);
            }
            for (int v : new int[] {from[i] - 1, to[i] + 1}) {
                String text = row('h', HOUSE) + row('s', with(SERVICE, i, v));
                if (v >= 0) c.reads(text, -100 - placeOfFigures(text, 5 + i), 2);
            }
        }
    }

    private static void mostNotLessThanLeast() {
        c.of("1 to 20, not less than LEAST");
        c.reads(row('h', HOUSE) + "s9,8,", -115, 2);
        c.reads(row('h', HOUSE) + "s9,9,1,1,1,1,1,1,1;", 1, 0);
        c.reads(row('h', HOUSE) + "s9,10,1,1,1,1,1,1,1;", 1, 0);
        c.reads(row('h', HOUSE) + "s0,0,", -115, 2);
        c.reads(row('h', HOUSE) + "s0,1,1,1,1,1,1,1,1;", 1, 0);
        // That one SERVICE has a great LEAST says nothing of the next one's MOST.
        c.reads(row('h', HOUSE) + "s9,9,1,1,1,1,1,1,1;s2,2,1,1,1,1,1,1,1;", 2, 0);
        c.reads(row('h', HOUSE) + "s9,9,1,1,1,1,1,1,1;s2,1,1,1,1,1,1,1,1;", -134, 2);
    }

    private static void services() {
        c.of("TEXT: HOUSE SERVICE { SERVICE } .. SERVICE (SERVICES 0 on, 4 at most)");
        c.reads(row('h', HOUSE), -112, 1);
        StringBuilder text = new StringBuilder(row('h', HOUSE));
        for (int i = 1; i <= 4; i++) {
            text.append(row('s', with(SERVICE, 2, 5 + i)));
            EnoughServers x = new EnoughServers();
            c.due(text + " house()", Check.read(x, text.toString()), i);
            for (int s = 0; s < i; s++) c.due("RANK of " + s, x.service(s, 2), 6 + s);
            c.due("no SERVICE " + i, x.service(i, 2), UNKNOWN);
            c.due("no SERVICE -1", x.service(-1, 2), UNKNOWN);
        }
        c.reads(text + row('s', SERVICE), -100 - text.length(), 3);
        c.reads(text + " s", -101 - text.length(), 3);
    }

    private static void measures() {
        c.of("{ MEASURE } .. MEASURE (of a SERVICE 0 on, 3 at most): SORT TARGET ;");
        String text = ONE;
        for (int i = 0; i <= 3; i++) {
            EnoughServers x = Check.with(text + row('s', SERVICE) + "q7;");
            c.due("MEASURES of 0", x.service(0, 9), i);
            c.due("MEASURES of 1", x.service(1, 9), 1);
            for (int m = 0; m < i; m++) c.due("TARGET of " + m, x.measure(0, m, 1), 11 + m);
            c.due("no MEASURE " + i, x.measure(0, i, 1), UNKNOWN);
            c.due("no MEASURE -1", x.measure(0, -1, 1), UNKNOWN);
            c.due("TARGET of the other", x.measure(1, 0, 1), 7);
            text = text + "t" + (11 + i) + ";";
        }
        String four = ONE + "t1;t1;t1;";
        for (char sort : new char[] {'t', 'f', 'a', 'q'}) c.reads(four + sort, -100 - four.length(), 3);
        // Three of each SERVICE, though they are twelve together.
        String three = row('s', SERVICE) + "t1;f2;a3;";
        c.reads(row('h', HOUSE) + three + three + three + three, 4, 0);
    }

    private static void sorts() {
        c.of("SORT t TOTAL, f FORESEEN, a AVERAGE, q QUEUE: KINDS 1 to 4");
        String sorts = "tfaq";
        for (int i = 0; i < 4; i++) c.due("KIND of " + sorts.charAt(i), Check.with(ONE + sorts.charAt(i) + "5;").measure(0, 0, 0), 1 + i);
        for (int b = 33; b < 256; b++) {
            if (sorts.indexOf(b) < 0 && b != 's') c.reads(ONE + (char) b + "5;", -131, 1);
        }
    }

    private static void targets() {
        c.of("TARGET 1 to 99");
        c.reads(ONE + "t0;", -132, 2);
        c.reads(ONE + "t00;", -132, 2);
        c.due("TARGET 1", Check.with(ONE + "t1;").measure(0, 0, 1), 1);
        c.due("TARGET 01", Check.with(ONE + "t01;").measure(0, 0, 1), 1);
        c.due("TARGET 98", Check.with(ONE + "t98;").measure(0, 0, 1), 98);
        c.due("TARGET 99", Check.with(ONE + "t99;").measure(0, 0, 1), 99);
        c.reads(ONE + "t100;", -132, 2);
    }

    private static void theFirstToken() {
        c.of("FAULTS, the first TOKEN that has one");
        c.reads("h0,0,10,4,1;", -101, 2);
        c.reads("h1,0,10,4,1;", -103, 2);
        c.reads("h1,1,10,4,1;", -105, 2);
        c.reads("h1;1,99", -102, 1);
        c.reads("h99;", -101, 2);
        c.reads("h5,1,0,0,2;s6,5,x", -112, 4);
        c.reads("h5,1,0,0,2;s5,4,s", -114, 2);
        c.reads(ONE + "t1;t1;t1;t0,", -140, 3);
        c.reads(ONE + "t0;t1;t1;t1;", -132, 2);
    }

    private static void theLeastOfOneToken() {
        c.of("of one TOKEN the least");
        // Figures of three digits that cannot stand there; a LEAST that is no LEAST and too many besides.
        c.reads("123", -100, 1);
        c.reads("h9 123", -103, 1);
        c.reads(ONE + "100", -131, 1);
        c.reads("h1,1,0,0,2;s10,", -112, 2);
        c.reads("h1,1,0,0,2;s002,", -112, 2);
        c.reads("h1,1,0,0,2;s9,", -112, 4);
    }

    /** All numbers have one digit, so that the text may be cut at every byte. */
    private static void theEndTooSoon() {
        c.of("1 it cannot stand there (the end, too, if it comes too soon; its place is how many bytes there are)");
        String text = "h9,3,1,1,4;s1,9,1,1,1,1,1,1,1;t5;s1,9,1,1,1,1,1,1,1;q6;f7;";
        for (int bytes = 0; bytes <= text.length(); bytes++) {
            String cut = text.substring(0, bytes);
            int services = bytes >= 52 ? 2 : 1;
            boolean whole = bytes == 30 || bytes == 33 || bytes == 52 || bytes == 55 || bytes == 58;
            c.reads(cut, whole ? services : -100 - bytes, whole ? 0 : 1);
            c.reads(cut + "   ", whole ? services : -103 - bytes, whole ? 0 : 1);
        }
    }

    private static void moreThanTwoDigits() {
        c.of("2 figures of more than two digits, or a number that is not as told");
        c.reads("h036,", -101, 2);
        c.reads("h36,003,", -104, 2);
        c.reads("h36,03,01,01,04;s01,09,01,01,01,01,01,01,01;t05;", 1, 0);
        c.reads("h36,3,1,1,4;s1,9,1,1,1,1,001,", -125, 2);
        c.reads(ONE + "t005;", -132, 2);
        c.reads("h36,3,00,00,4;s00,9,00,1,1,00,00,00,1;", 1, 0);
        // Figures so long that a number would wrap around to one that is as told: 4294967301 is 5.
        c.reads("h4294967301,", -101, 2);
        c.reads("h9,1," + "0".repeat(100) + ",", -105, 2);
        c.reads("h9,1," + "9".repeat(100) + ",", -105, 2);
        c.reads(ONE + "t4294967301;", -132, 2);
    }

    private static void moreThanTold() {
        c.of("3 a SERVICE, a MEASURE more than told (its letter)");
        String four = row('h', HOUSE) + row('s', SERVICE).repeat(4);
        c.reads(four + "s", -100 - four.length(), 3);
        c.reads(four + "sx", -100 - four.length(), 3);
        c.reads(four + "  s0,", -102 - four.length(), 3);
        c.reads(four + "t1;t1;t1;s", -109 - four.length(), 3);
        c.reads(four + "t1;t1;t1; q", -110 - four.length(), 3);
        c.reads(four + "h", -100 - four.length(), 1);
        c.reads(four + "t1;t1;t1;u", -109 - four.length(), 1);
        c.reads(ONE + "t1;t1;t1;q", -140, 3);
        c.reads(ONE + "t1;t1;t1;s", -141, 1);
    }

    private static String leasts(int capacity, int... leasts) {
        StringBuilder s = new StringBuilder(row('h', with(HOUSE, 0, capacity)));
        for (int least : leasts) s.append(row('s', with(SERVICE, 0, least)));
        return s.toString();
    }

    private static void leastsTogether() {
        c.of("4 LEASTS of all SERVICES, together, more than CAPACITY (at the LEAST by which they are)");
        c.reads(leasts(36, 9, 9, 9, 9), 4, 0);
        c.reads(leasts(35, 9, 9, 9, 9), -100 - placeOfFigures(leasts(35, 9, 9, 9, 9), 5 + 27), 4);
        c.reads(leasts(10, 3, 3, 3, 1), 4, 0);
        c.reads(leasts(10, 3, 3, 3, 2), -100 - placeOfFigures(leasts(10, 3, 3, 3, 2), 5 + 27), 4);
        c.reads(leasts(10, 3, 3, 5, 0), -100 - placeOfFigures(leasts(10, 3, 3, 5, 0), 5 + 18), 4);
        c.reads(leasts(10, 3, 8, 9, 9), -100 - placeOfFigures(leasts(10, 3, 8, 9, 9), 5 + 9), 4);
        c.reads(leasts(5, 5), 1, 0);
        c.reads(leasts(5, 6), -112, 4);
        c.reads(leasts(1, 0, 1, 0, 0), 4, 0);
        c.reads(leasts(1, 0, 1, 0, 1), -100 - placeOfFigures(leasts(1, 0, 1, 0, 1), 5 + 27), 4);
    }

    /** LEASTS of a text that was read before, with a FAULT or without one, are not counted again. */
    private static void leastsOfThisTextAlone() {
        c.of("LEASTS of all SERVICES, together");
        EnoughServers x = new EnoughServers();
        String[] texts = {leasts(9, 9), leasts(9, 4, 5), leasts(9, 9, 1), leasts(9, 2, 2, 2, 3), leasts(8, 9), leasts(9, 9)};
        int[] answers = {1, 2, -131, 4, -112, 1};
        for (int i = 0; i < texts.length; i++) {
            c.due("house() of " + texts[i], Check.read(x, texts[i]), answers[i]);
            if (i % 2 == 1) tryOut(x);
        }
    }

    private static void emptyInAnyCase() {
        c.of("THE TEXT is empty behind reading it in any case.");
        String[] texts = {ONE, "", "x", "h0", ONE + "t1;t1;t1;t1;", "h1,1,0,0,2;s2,", " ".repeat(160)};
        int[] faults = {0, 1, 1, 2, 3, 4, 1};
        for (int i = 0; i < texts.length; i++) {
            EnoughServers x = new EnoughServers();
            Check.read(x, texts[i]);
            c.due("fault() of " + texts[i], x.fault(), faults[i]);
            c.due("count(10) behind " + texts[i], x.count(10), 0);
            c.due("write('h') behind " + texts[i], x.write('h'), 1);
            c.due("a good text behind " + texts[i], Check.read(x, ONE.substring(1)), 1);
            c.due("and nothing", x.house(), -100);
        }
    }

    /** A shorter text behind a longer one ends where it ends: no blank and no digit of the longer one is read on. */
    private static void nothingIsLeftOfALongerText() {
        c.of("THE TEXT is empty behind reading it in any case.");
        String[] longer = {" ".repeat(160), "9".repeat(160), "h9" + "9".repeat(158), "h9" + " ".repeat(158), "h9,".repeat(53), ONE + ONE};
        String[] texts = {"", "h", "h9", "h9,3,1,1,4", "h9,3,1,1,4;s1,9,1,1,1,1,1,1,1", "h9,3,1,1,4;s1,9,1,1,1,1,1,1,1;"};
        for (String before : longer) {
            for (String text : texts) {
                EnoughServers x = new EnoughServers();
                Check.read(x, before);
                boolean whole = text.endsWith(";");
                c.due("'" + text + "' behind '" + before + "'", Check.read(x, text), whole ? 1 : -100 - text.length());
                c.due("its fault()", x.fault(), whole ? 0 : 1);
                if (whole) c.due("CAPACITY", x.count(4), 9);
            }
        }
    }

    /** Windows, steps, flutters, PAST, values, the pool: nothing of the former HOUSE is left in the new one. */
    private static void inPlaceOfTheOneBefore() {
        c.of("A HOUSE that is read comes in place of the one before: ROUND 0 is the next one; each SERVICE has LEAST servers, "
            + "all READY; the pool has POOL; no MEASURE has a VALUE; nothing can be undone.");
        String large = "h40,4,6,0,2;s3,20,0,4,4,5,50,2,4;t1;f3;q2;s2,20,5,2,6,9,0,9,2;f2;";
        String small = "h20,2,3,1,3;s1,9,0,6,6,2,50,2,4;f2;";
        c.alike("a smaller one", x -> Check.read(x, small), x -> {
            playTwo(x, large);
            Check.read(x, small);
        });
        c.alike("a larger one", x -> Check.read(x, large), x -> {
            playOne(x, small);
            Check.read(x, large);
        });
        c.alike("a smaller one that goes on", x -> playOne(x, small), x -> {
            playTwo(x, large);
            playOne(x, small);
        });
        c.alike("a larger one that goes on", x -> playTwo(x, large), x -> {
            playOne(x, small);
            playTwo(x, large);
        });
        c.alike("the same once more", x -> Check.read(x, large), x -> {
            playTwo(x, large);
            Check.read(x, large);
        });
        EnoughServers x = new EnoughServers();
        playTwo(x, large);
        c.due("house()", Check.read(x, "h40,4,6,0,2;s3,20,0,4,4,5,50,2,4;t1;s0,20,5,2,6,9,0,9,2;"), 2);
        int[] counts = {0, 2, 3, 6, 40, 4, 6, 0, 2, 0, 0};
        for (int i = 0; i < 11; i++) c.due("count(" + i + ")", x.count(i), counts[i]);
        int[] first = {3, 3, -1, 0, 0, 0};
        int[] second = {0, 0, -1, 0, 0, 0};
        for (int i = 0; i < 6; i++) c.due("service(0, " + (10 + i) + ")", x.service(0, 10 + i), first[i]);
        for (int i = 0; i < 6; i++) c.due("service(1, " + (10 + i) + ")", x.service(1, 10 + i), second[i]);
        c.due("MEASURES of 0", x.service(0, 9), 1);
        c.due("MEASURES of 1", x.service(1, 9), 0);
        c.due("VALUE", x.measure(0, 0, 2), -1);
        c.due("its PAST", x.measure(0, 0, 4), 0);
        c.due("undo()", x.undo(), EnoughServers.NOT);
    }

    private static void playTwo(EnoughServers x, String text) {
        Check.read(x, text);
        int[] loads = {9, 20, 3, 0, 14, 20, 1};
        for (int load : loads) {
            x.load(0, 0, load);
            x.load(1, 0, 20 - load);
            x.round();
        }
        x.load(0, 1, 30);
        x.set(1, 2, 7);
        tryOut(x);
    }

    /** What was only tried must leave nothing for the next HOUSE either. */
    private static void tryOut(EnoughServers x) {
        x.would(0, 4);
        x.ahead(50, 0);
    }

    private static void playOne(EnoughServers x, String text) {
        Check.read(x, text);
        int[] loads = {4, 16, 8, 1, 0};
        for (int load : loads) {
            x.load(0, 0, load);
            x.round();
        }
        tryOut(x);
    }

    private static void allStays() {
        c.of("-100 less the place of the FAULT's TOKEN (its first byte): all stays.");
        String old = "h20,2,3,1,3;s1,9,0,2,3,2,50,2,2;f2;";
        String[] texts = {"", "x", "h60,6,9,3,6;s9,20,9,6,6,9,99,9,4;t99;f99;a9", "h60,6,9,3,6;s9,20,9,6,6,9,99,9,5;",
            "h60,6,9,3,6;s9,20,9,6,6,9,99,9,4;t9;f9;a9;t9;", "h9,6,9,3,6;s9,20,9,6,6,9,99,9,4;t9;s1,", " ".repeat(160)};
        for (String text : texts) {
            c.alike("behind '" + text + "'", x -> playOne(x, old), x -> {
                playOne(x, old);
                c.holds("a FAULT in '" + text + "'", Check.read(x, text) <= -100);
            });
        }
    }

    private static void aByte() {
        c.of("A byte (0 to 255) comes behind THE TEXT: how many it has. OUTSIDE; FULL.");
        int[] outside = {-1, 256, -2, 257, 'h' + 256, 'h' - 256, Integer.MAX_VALUE, Integer.MIN_VALUE};
        EnoughServers x = new EnoughServers();
        c.due("write(0)", x.write(0), 1);
        c.due("write(255)", x.write(255), 2);
        for (int b : outside) c.due("write(" + b + ")", x.write(b), OUTSIDE);
        c.due("count(10)", x.count(10), 2);
        for (int i = 2; i < 160; i++) c.due("byte " + i, x.write(i), i + 1);
        for (int b : outside) c.due("full, write(" + b + ")", x.write(b), OUTSIDE);
        c.due("full, write(0)", x.write(0), FULL);
        c.due("full, write(255)", x.write(255), FULL);
        c.due("count(10)", x.count(10), 160);
        EnoughServers y = new EnoughServers();
        for (int i = 0; i < ONE.length(); i++) {
            y.write(ONE.charAt(i));
            y.write(256 + '9');
        }
        c.due("what is refused is not read", y.house(), 1);
    }

    private static void howManyServices() {
        c.of("THE TEXT is read: how many SERVICES");
        for (int i = 1; i <= 4; i++) c.reads(row('h', HOUSE) + (row('s', SERVICE) + "t1;").repeat(i), i, 0);
    }

    private static void placeOfTheFault() {
        c.of("-100 less the place of the FAULT's TOKEN (its first byte)");
        c.reads("", -100, 1);
        c.reads("x", -100, 1);
        c.reads(" x", -101, 1);
        c.reads(" ".repeat(159) + "x", -259, 1);
        c.reads(" ".repeat(160), -260, 1);
        c.reads(" ".repeat(157) + "h99", -258, 2);
        c.reads(" ".repeat(158) + "h9", -260, 1);
        c.reads("h   061", -104, 2);
    }

    private static void theLatestFault() {
        c.of("Which FAULT the latest text had that was read (1 to 4); 0: none, or none was read.");
        EnoughServers x = new EnoughServers();
        c.due("none was read", x.fault(), 0);
        Check.write(x, "h0");
        c.due("written, not read", x.fault(), 0);
        x.house();
        c.due("2", x.fault(), 2);
        c.due("asked again", x.fault(), 2);
        x.write('x');
        x.write(256);
        x.round();
        x.count(99);
        c.due("till the next is read", x.fault(), 2);
        x.house();
        c.due("1", x.fault(), 1);
        Check.read(x, ONE + "t1;t1;t1;t1;");
        c.due("3", x.fault(), 3);
        Check.read(x, "h1,1,0,0,2;s2,");
        c.due("4", x.fault(), 4);
        Check.read(x, ONE + "t1;");
        c.due("none", x.fault(), 0);
        x.load(0, 0, 1);
        x.load(9, 0, 1);
        x.round();
        x.undo();
        c.due("none yet", x.fault(), 0);
        x.house();
        c.due("of an empty text", x.fault(), 1);
        x.round();
        x.undo();
        c.due("what is done does not mend it", x.fault(), 1);
    }
}
