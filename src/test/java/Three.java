/** A house of three services, scarce, with a pool, with every KIND but a TOTAL, that goes up and down for many ROUNDS. */
final class Three {
    static final String TEXT = "h14,3,3,1,3;s1,12,3,2,3,4,50,3,3;f5;q4;s0,9,5,1,2,3,99,9,2;a9;s2,4,0,1,1,1,1,1,1;";
    private static final int[] LOADS = {3, 40, 41, 90, 12, 0, 77, 5, 60, 33, 99, 1, 20};

    private Three() {
    }

    static EnoughServers played(int rounds) {
        EnoughServers x = Check.with(TEXT);
        play(x, 0, rounds);
        return x;
    }

    /** Four calls a ROUND. */
    static void play(EnoughServers x, int from, int to) {
        for (int i = from; i < to; i++) {
            x.load(0, 0, LOADS[i % 13]);
            x.load(0, 1, LOADS[(i + 5) % 13] / 10);
            x.load(1, 0, LOADS[(i + 2) % 13] / 3);
            x.round();
        }
    }
}
