/** An object is used for at most 512 calls: the last of them is answered as the first is, by the largest numbers there are. */
public final class LimitTest {
    private static final Check c = new Check();

    public static void main(String[] args) {
        c.of("An object is used for at most 512 calls after it has been made");
        rounds();
        bytes();
        texts();
        sums();
        undone();
        c.end("LimitTest");
    }

    private static final String ONE = "h60,6,9,3,6;s0,20,0,1,1,9,99,9,1;t1;";

    private static void rounds() {
        int writes = ONE.length() + 1;
        for (int what = 0; what <= 3; what++) {
            EnoughServers x = Check.with(ONE);
            x.load(0, 0, 20);
            int rounds = 511 - writes - 1;
            Check.rounds(x, rounds);
            int[] due = {rounds, 1, 20, 9};
            c.due("the 512th call, count(" + what + ")", x.count(what), due[what]);
        }
        EnoughServers x = Check.with(ONE);
        x.load(0, 0, 20);
        Check.rounds(x, 511 - writes - 1);
        c.due("the 512th call, round()", x.round(), 20);
    }

    private static void bytes() {
        EnoughServers x = new EnoughServers();
        for (int i = 0; i < 160; i++) x.write(' ');
        for (int i = 160; i < 511; i++) c.due("call " + (i + 1), x.write('h'), EnoughServers.FULL);
        c.due("the 512th call, house()", x.house(), -260);
    }

    private static void texts() {
        EnoughServers x = new EnoughServers();
        for (int i = 0; i < 511 / 37; i++) c.due("house()", Check.read(x, ONE), 1);
        for (int i = 511 / 37 * 37; i < 511; i++) x.round();
        c.due("the 512th call, count(0)", x.count(0), 511 % 37);
    }

    /** 20 servers, each READY one worth 9999 to an AVERAGE by 1: what is lacked is 199960 a ROUND. */
    private static void sums() {
        String service = "s9,20,0,1,1,9,99,9,1;a1;";
        String text = "h60,1,0,0,2;" + service + service + service;
        int left = 512 - text.length() - 1 - 3;
        int rounds = left - 2;
        long lack = 9L * 9999 - 9 + 18L * 9999 - 18 + (rounds - 2) * (20L * 9999 - 20);
        EnoughServers x = full(text, rounds);
        c.due("LACK", x.service(2, 14), (int) lack);
        c.due("the 512th call, LACK of 50 ROUNDS", x.ahead(50, 2), 3 * 50 * (20 * 9999 - 20));
        EnoughServers y = full(text, rounds);
        c.due("SPENT", y.service(2, 13), 18 + 20 * (rounds - 1));
        c.due("the 512th call, SPENT of 50 ROUNDS", y.ahead(50, 1), 3 * 50 * 20);
        EnoughServers z = full(text, rounds);
        c.due("LACK of 18 ROUNDS", z.replay(0, 1, 1, 1), 9 * 9999 - 9 + 18 * 9999 - 18 + 16 * (20 * 9999 - 20));
        c.due("the 512th call, best()", z.best(2), 11);
    }

    private static EnoughServers full(String text, int rounds) {
        EnoughServers x = Check.with(text);
        for (int s = 0; s < 3; s++) x.load(s, 0, 9999);
        Check.rounds(x, rounds);
        return x;
    }

    private static void undone() {
        EnoughServers x = Check.with(ONE);
        int rounds = 512 - ONE.length() - 1 - 11;
        Check.rounds(x, rounds);
        for (int left = 9; left >= 0; left--) c.due("undo()", x.undo(), left);
        c.due("the 512th call, undo()", x.undo(), EnoughServers.NOT);
    }
}
