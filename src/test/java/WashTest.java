/** Promises 29 to 31: wash days. */
public final class WashTest extends Promises {
    public static void main(String[] args) {
        WashTest t = new WashTest();
        t.washes();
        t.asByHand();
        t.odds();
        t.seed();
        t.end();
    }

    private static int after(int z) { return z * 1103515245 + 12345; }

    private void washes() {
        MangleKin x = with(0, 0);
        x.washes(1);
        // 1103515245 and 12345 are 1103527590, which by 256 is 4310654; that leaves 126 by 256.
        due("29: z", x.count(6), 1103527590);
        due("29: the set", x.listed(0), 126);
        due("29: who is kept", x.now(3), 1);
        due("29: turn", x.now(0), 1);
        due("29: at place 1 nothing yet", x.listed(1), 0);
        beyond("29: 0", x.washes(0));
        beyond("29: 21", x.washes(21));
        beyond("29: -1", x.washes(-1));
        due("29: z is left", x.count(6), 1103527590);
        due("29: turn is left", x.now(0), 1);
        x.washes(20);
        due("29: turn 21", x.now(0), 21);
    }

    private void asByHand() {
        MangleKin x = with(0, 1, 2, 3, 4, 5, 6, 0);
        MangleKin y = with(0, 1, 2, 3, 4, 5, 6, 0);
        int z = -77;
        x.seed(z);
        for (int k = 0; k < 9; k++) {
            z = after(z);
            y.list(y.now(0) % 6, (z >>> 8) % 256);
            y.go(1);
        }
        due("29: kin of all together", x.washes(9), y.now(1));
        due("29: z after 9", x.count(6), z);
        for (int i = 0; i < 6; i++) {
            due("29: listed(" + i + ")", x.listed(i), y.listed(i));
        }
        due("29: who is kept", x.now(3), y.now(3));
    }

    private void odds() {
        MangleKin x = with(0, 0);
        due("30: of no set, above", x.odds(0, 0, 0), 1);
        due("30: of no set, below", x.odds(0, 0, 1), 1);
        due("30: of one, above", x.odds(1, 1, 0), 1);
        due("30: of one, below", x.odds(1, 1, 1), 2);
        due("30: of 40, above", x.odds(0, 40, 0), 1);
        due("30: of 40, below", x.odds(0, 40, 1), 1099511627776L);
        due("30: of 32, below", x.odds(0, 32, 1), 4294967296L);
        beyond("30: n 41", x.odds(0, 41, 0));
        beyond("30: n -1", x.odds(0, -1, 0));
        beyond("30: what 2", x.odds(0, 1, 2));
        beyond("30: what -1", x.odds(0, 1, -1));
        beyond("30: nobody", x.odds(2, 1, 0));
        beyond("30: nobody below", x.odds(-1, 1, 0));
        due("30: they are counted", x.status(0), 6);
    }

    private void seed() {
        MangleKin x = new MangleKin();
        due("31: at first", x.seed(-1000001), 1);
        due("31: no finding", x.seed(Integer.MIN_VALUE), -1000001);
        due("31: the least", x.seed(Integer.MAX_VALUE), Integer.MIN_VALUE);
        due("31: nothing is counted", x.status(-1), 0);
        x.washes(1);
        due("31: drawn from it", x.count(6), after(Integer.MAX_VALUE));
    }
}
