/** Promises 29 to 31, sentence by sentence: wash days. */
public final class SaidOfWashDaysTest extends Sentences {
    private static final String WASHES = "n times (1 to 20): a draw: THE LIST tells for the next TURN the set that is "
        + "its rest by 256; then a TURN: KIN of all two together then.";
    private static final String ODDS = "The odds that one (that there is) is in none of n (0 to 40) such sets: a "
        + "fraction in lowest terms: above (what 0), below the line (1).";

    public static void main(String[] args) throws Exception { new SaidOfWashDaysTest().askAll(); }

    private static int drawn(int z) { return z * 1103515245 + 12345; }

    @Says(promise = 29, value = WASHES)
    void once() {
        MangleKin x = lords();
        x.list(0, 1);
        x.seed(2);
        due("205 is 0, 2, 3, 6, 7: one of two", x.washes(1), 0);
        due("the set for TURN 0", x.listed(0), 205);
        due("no other place", x.listed(1), 0);
        due("TURN", x.now(0), 1);
        due("who went in is kept", x.now(3), 0);
        due("z", x.count(6), drawn(2));
    }

    @Says(promise = 29, value = WASHES)
    void twentyTimes() {
        MangleKin x = eight(0);
        MangleKin y = eight(0);
        x.go(4);
        y.go(4);
        int z = 1;
        for (int k = 0; k < 20; k++) {
            z = drawn(z);
            y.list((4 + k) % 6, z >>> 8 & 255);
            y.go(1);
        }
        due("KIN of all two together", x.washes(20), y.now(1));
        due("TURN", x.now(0), 24);
        due("z", x.count(6), z);
        due("who is kept", x.now(3), y.now(3));
        for (int i = 0; i < 6; i++) {
            due("place " + i, x.listed(i), y.listed(i));
        }
    }

    @Says(promise = 29, value = WASHES)
    void theSeventhDrawIsAtTheFirstPlaceAgain() {
        MangleKin x = new MangleKin();
        int z = 1;
        int[] sets = new int[7];
        for (int k = 0; k < 7; k++) {
            z = drawn(z);
            sets[k] = z >>> 8 & 255;
        }
        x.washes(6);
        due("place 0", x.listed(0), sets[0]);
        due("place 5", x.listed(5), sets[5]);
        due("nobody is there", x.washes(1), 0);
        due("place 0 again", x.listed(0), sets[6]);
        due("place 1", x.listed(1), sets[1]);
    }

    @Says(promise = 29, value = WASHES)
    void itsRestBy256() {
        MangleKin x = new MangleKin();
        int z = 0;
        x.seed(z);
        for (int k = 0; k < 100; k++) {
            z = drawn(z);
            x.washes(1);
            int rest = (int) ((z & 0xffffffffL) / 256 % 256);
            due("draw " + k + " makes z " + z, x.listed(k % 6), rest);
        }
    }

    @Says(promise = 29, value = "BEYOND.")
    void washesBeyond() {
        MangleKin x = with(0, 0);
        for (int n : new int[] {0, -1, 21, LEAST, MOST}) {
            beyond("washes(" + n + ")", x.washes(n));
        }
        due("z is as it was", x.count(6), 1);
        due("TURN is as it was", x.now(0), 0);
        due("THE LIST is as it was", x.listed(0), 0);
    }

    @Says(promise = 29, value = "STATE: TURN would be above 99999.")
    void washesState() {
        MangleKin x = atTurn(99979, 0);
        x.image();
        due("99999", x.washes(20), 0);
        due("TURN", x.now(0), 99999);
        due("100000", x.washes(1), STATE);
        x.undo();
        x.go(1);
        due("100000 by 20", x.washes(20), STATE);
        due("no TURN went by", x.now(0), 99980);
        due("z is as it was", x.count(6), 1);
        due("19 go", x.washes(19), 0);
        due("STATE is counted", x.status(4), 2);
    }

    @Says(promise = 30, value = ODDS)
    void odds() {
        MangleKin x = eight(0);
        for (int n = 0; n <= 40; n++) {
            due("above, n " + n, x.odds(n % 8, n, 0), 1);
            due("below, n " + n, x.odds(7 - n % 8, n, 1), 1L << n);
        }
        due("of 40 below the line", x.odds(7, 40, 1), 1099511627776L);
        due("of none above", x.odds(0, 0, 0), 1);
        due("of none below the line", x.odds(0, 0, 1), 1);
    }

    @Says(promise = 30, value = "BEYOND.")
    void oddsBeyond() {
        MangleKin x = with(0, 0);
        for (int p : new int[] {-1, 2, 8, LEAST, MOST}) {
            beyond("of " + p, x.odds(p, 1, 0));
        }
        for (int n : new int[] {-1, 41, 64, LEAST, MOST}) {
            beyond("n " + n, x.odds(0, n, 1));
        }
        for (int what : new int[] {-1, 2, LEAST, MOST}) {
            beyond("what " + what, x.odds(0, 1, what));
        }
        beyond("nobody is there", new MangleKin().odds(0, 0, 0));
    }

    @Says(promise = 31, value = "z becomes v: what it was.")
    void seed() {
        MangleKin x = new MangleKin();
        due("the least", x.seed(LEAST), 1);
        due("the greatest", x.seed(MOST), LEAST);
        due("0", x.seed(0), MOST);
        due("-1", x.seed(-1), 0);
        due("as it is", x.seed(-1), -1);
        due("z", x.count(6), -1);
        x.washes(1);
        due("what the draws made of it", x.seed(5), drawn(-1));
    }
}
