/** Promises 21 to 28, sentence by sentence: whom to put in; what went in. */
public final class SaidOfChoicesTest extends Sentences {
    private static final String SAME = "BEYOND: also one and the same.";
    private static final String PUT = "The set of fewest of PEOPLE (that there are) that THE LIST must tell for the "
        + "next TURN (its place then), so that KIN of two is v (0 to 999) or more behind n (0 to 12) TURNS; of "
        + "several the least.";
    private static final String APART = "The set of fewest of PEOPLE (that there are) such that, if all places of "
        + "THE LIST are without them, KIN of two is v (0 to 999) or less behind n (0 to 12) TURNS; of several the "
        + "least.";
    private static final String KIND_FOR = "The KIND of which one must be, so that its KIN to all others together "
        + "is most behind n (0 to 40) TURNS.";
    private static final String DAMP_FOR = "The least DAMP with which KIN of two is v (0 to 999) or more behind n "
        + "(0 to 40) TURNS.";
    private static final String DIVORCE = "Who, if ironed now, would leave most CLANS for v (1 to 999).";
    private static final String FITS = "How many sets (0 to 255) THE LIST could tell for a place now, so that KIN of "
        + "two now and behind each TURN further on is as a sheet tells (-1: any).";
    private static final String KINDS = "KINDS that one could be of, as a set, so that its KIN to all others "
        + "together, now and behind each TURN further on, is as a sheet tells (-1: any).";
    private static final int[] NOBODIES = {-1, 2, 8, LEAST, MOST};
    private static final int[] NO_KIN = {-1, 1000, LEAST, MOST};
    private static final int[] NO_SHEETS = {-1, 4, LEAST, MOST};

    public static void main(String[] args) throws Exception { new SaidOfChoicesTest().askAll(); }

    private static MangleKin lordsAlways() {
        MangleKin x = lords();
        for (int i = 0; i < 6; i++) {
            x.list(i, 3);
        }
        return x;
    }

    /** An heir 2 of worth 0, whose KIN to 0, 1 and 3 is 9; 3 brings much and doesn't fade; damp is 1. */
    private static MangleKin heirAndLord() {
        MangleKin x = with(0, 0, 6, 1);
        x.damp(1);
        x.change(2, 1, 0);
        x.change(3, 1, 99);
        return x;
    }

    private static void nineToAll(MangleKin x) {
        x.make(2, 0, 9);
        x.make(2, 1, 9);
        x.make(2, 3, 9);
    }

    private static int[] anyBut(int size, int last) {
        int[] numbers = new int[size];
        java.util.Arrays.fill(numbers, -1);
        numbers[size - 1] = last;
        return numbers;
    }

    // ---- 21: put

    @Says(promise = 21, value = PUT)
    void putForKinOf0To999() {
        MangleKin x = lords();
        due("v 0", x.put(0, 1, 0, 1), 0);
        due("v 1", x.put(0, 1, 1, 1), 3);
        x.make(0, 1, 998);
        due("v 998", x.put(0, 1, 998, 1), 0);
        due("v 999", x.put(1, 0, 999, 1), 3);
    }

    @Says(promise = 21, value = PUT)
    void putBehind0To12Turns() {
        MangleKin x = lords();
        due("n 0, as it is", x.put(0, 1, 0, 0), 0);
        due("n 6, twice", x.put(0, 1, 2, 6), NONE);
        due("n 7, twice", x.put(0, 1, 2, 7), 3);
        due("n 12, twice", x.put(0, 1, 2, 12), 3);
        due("n 12, three times", x.put(0, 1, 3, 12), NONE);
        x.list(5, 3);
        due("n 11", x.put(0, 1, 4, 11), NONE);
        due("n 12: the twelfth counts", x.put(0, 1, 4, 12), 3);
    }

    @Says(promise = 21, value = PUT)
    void putForTheNextTurnsPlace() {
        MangleKin x = lords();
        x.go(5);
        due("at TURN 5 it is place 5", x.put(0, 1, 1, 1), 3);
        x.list(5, 3);
        due("place 5 is told anew", x.put(0, 1, 1, 1), 3);
        x.list(0, 3);
        due("place 0 comes behind it", x.put(0, 1, 1, 2), 0);
        due("both", x.put(0, 1, 2, 2), 3);
        x.list(5, 0);
        x.go(1);
        due("at TURN 6 it is place 0", x.put(0, 1, 1, 1), 3);
        due("place 0 is as it was", x.listed(0), 3);
    }

    @Says(promise = 21, value = PUT)
    void putFewestNotLeast() {
        MangleKin x = heirAndLord();
        x.list(0, 4);
        x.go(1);
        x.list(2, 12);
        nineToAll(x);
        due("3 alone does as much as 0 and 1", x.put(2, 3, 12, 2), 8);
        due("none does less", x.put(2, 3, 10, 2), 0);
        due("of 0 and 1 the least", x.put(2, 3, 11, 2), 1);
        due("of two twos the least", x.put(2, 3, 13, 2), 9);
        due("three", x.put(2, 3, 14, 2), 11);
        due("four do no more", x.put(2, 3, 15, 2), NONE);
    }

    @Says(promise = 21, value = PUT)
    void putPeopleThatThereAre() {
        MangleKin x = with(0, 0);
        x.list(0, 255);
        due("two", x.put(0, 1, 7, 1), 3);
        MangleKin y = eight(0);
        due("the last two of eight", y.put(6, 7, 7, 1), 192);
        due("nothing changes", y.now(0) + y.now(1) + y.listed(0), 0);
    }

    @Says(promise = 21, value = SAME)
    void putBeyond() {
        MangleKin x = lords();
        beyond("one and the same", x.put(1, 1, 0, 0));
        for (int p : NOBODIES) {
            beyond("put(0, " + p + ")", x.put(0, p, 0, 0));
            beyond("put(" + p + ", 0)", x.put(p, 0, 0, 0));
        }
        for (int v : NO_KIN) {
            beyond("v " + v, x.put(0, 1, v, 0));
        }
        for (int n : new int[] {-1, 13, LEAST, MOST}) {
            beyond("n " + n, x.put(0, 1, 0, n));
        }
    }

    @Says(promise = 21, value = "NONE.")
    void putNone() {
        MangleKin x = lords();
        due("behind no TURN nobody helps", x.put(0, 1, 1, 0), NONE);
        due("1 more than both do", x.put(0, 1, 2, 1), NONE);
        MangleKin y = with(0, 0);
        y.make(0, 1, 9);
        y.list(0, 1);
        due("999 can't be", y.put(0, 1, 999, 12), NONE);
    }

    // ---- 22: apart

    @Says(promise = 22, value = APART)
    void apartForKinOf0To999() {
        MangleKin x = lordsAlways();
        due("v 0", x.apart(0, 1, 0, 1), 1);
        due("v 1", x.apart(0, 1, 1, 1), 0);
        x.make(0, 1, 999);
        due("v 999", x.apart(0, 1, 999, 1), 0);
        x.make(0, 1, 998);
        due("v 998", x.apart(1, 0, 998, 1), 1);
    }

    @Says(promise = 22, value = APART)
    void apartBehind0To12Turns() {
        MangleKin x = lordsAlways();
        x.make(0, 1, 5);
        due("n 0, as it is", x.apart(0, 1, 5, 0), 0);
        due("n 12", x.apart(0, 1, 17, 12), 0);
        due("n 12, one less", x.apart(0, 1, 16, 12), 1);
        due("n 11", x.apart(0, 1, 16, 11), 0);
    }

    @Says(promise = 22, value = APART)
    void apartOfAllPlaces() {
        for (int i = 0; i < 6; i++) {
            MangleKin x = lords();
            x.list(i, 255);
            due("only place " + i, x.apart(0, 1, 0, 6), 1);
            due("it is as it was", x.listed(i), 255);
        }
        due("all of them", lordsAlways().apart(0, 1, 0, 12), 1);
    }

    @Says(promise = 22, value = APART)
    void apartFewestNotLeast() {
        MangleKin x = heirAndLord();
        x.list(0, 7);
        x.list(1, 12);
        nineToAll(x);
        due("all go in", x.apart(2, 3, 12, 2), 0);
        due("without one", x.apart(2, 3, 11, 2), 1);
        due("2 alone does as much as 0 and 1", x.apart(2, 3, 10, 2), 4);
        due("of 2 and 3 the least", x.apart(2, 3, 9, 2), 4);
        due("no less", x.apart(2, 3, 8, 2), NONE);
    }

    @Says(promise = 22, value = APART)
    void apartWhoIsKeptGoesInAllTheSame() {
        MangleKin x = lords();
        x.list(0, 1);
        x.list(1, 3);
        x.go(1);
        due("0 is kept", x.now(3), 0);
        due("so it must be 1", x.apart(0, 1, 0, 1), 2);
    }

    @Says(promise = 22, value = APART)
    void apartPeopleThatThereAre() {
        MangleKin x = eight(0);
        x.list(0, 255);
        due("the last two of eight", x.apart(6, 7, 0, 1), 64);
        due("nothing changes", x.now(0) + x.now(1), 0);
    }

    @Says(promise = 22, value = SAME)
    void apartBeyond() {
        MangleKin x = lords();
        beyond("one and the same", x.apart(1, 1, 999, 0));
        for (int p : NOBODIES) {
            beyond("apart(0, " + p + ")", x.apart(0, p, 999, 0));
            beyond("apart(" + p + ", 0)", x.apart(p, 0, 999, 0));
        }
        for (int v : NO_KIN) {
            beyond("v " + v, x.apart(0, 1, v, 0));
        }
        for (int n : new int[] {-1, 13, LEAST, MOST}) {
            beyond("n " + n, x.apart(0, 1, 999, n));
        }
    }

    @Says(promise = 22, value = "NONE.")
    void apartNone() {
        MangleKin x = with(0, 0);
        x.make(0, 1, 5);
        due("now", x.apart(0, 1, 4, 0), NONE);
        due("it can't fade so fast", x.apart(0, 1, 3, 1), NONE);
        due("so fast it can", x.apart(0, 1, 4, 1), 0);
        MangleKin y = lords();
        y.make(0, 1, 1);
        due("lords don't fade", y.apart(0, 1, 0, 12), NONE);
    }

    // ---- 23: kindFor

    @Says(promise = 23, value = KIND_FOR)
    void kindFor0To40Turns() {
        MangleKin x = with(3, 1);
        x.change(0, 1, 0);
        x.change(1, 1, 99);
        x.damp(0);
        x.go(2);
        x.list(5, 3);
        due("n 0: all are as good", x.kindFor(0, 0), 0);
        due("n 4: a boy at TURN 5", x.kindFor(0, 4), 2);
        due("n 39: what there was has faded", x.kindFor(0, 39), 0);
        due("n 40: a sunday at TURN 41", x.kindFor(0, 40), 4);
        due("nothing changes: KIND", x.of(0, 0), 3);
        due("nothing changes: TURN", x.now(0), 2);
    }

    @Says(promise = 23, value = KIND_FOR)
    void kindForOfSeveralTheLeast() {
        MangleKin x = with(6, 1);
        x.make(0, 1, 50);
        due("lord and heir don't fade", x.kindFor(0, 1), 1);
        x.damp(9);
        due("nor does starched", x.kindFor(0, 40), 1);
        due("there is no other one", with(6).kindFor(0, 40), 0);
    }

    @Says(promise = 23, value = KIND_FOR)
    void kindForAllOthersTogether() {
        MangleKin x = with(0, 1, 1, 1);
        x.damp(0);
        x.change(0, 1, 1);
        for (int p = 1; p < 4; p++) {
            x.change(p, 1, 99);
        }
        x.list(0, 3);
        x.make(0, 2, 9);
        x.make(0, 3, 9);
        due("a boy's 3 to one, less 2 to two; a lord's 0; a person's 1, less 2", x.kindFor(0, 1), 1);
        x.list(0, 7);
        due("a boy's 3 to two, less 2 to one", x.kindFor(0, 1), 2);
    }

    /** One of a worth, who goes in with another one, if there is one, and is kin by 5 to a lord who doesn't. */
    private static MangleKin inAndOut(int worth, int other, int damp) {
        MangleKin x = with(0, 1, 1);
        x.damp(damp);
        x.change(0, 1, worth);
        x.change(1, 1, other);
        x.list(0, 3);
        x.make(0, 2, 5);
        return x;
    }

    @Says(promise = 23, value = KIND_FOR)
    void kindForAnyOfTheKinds() {
        due("a person: 4, less 1", inAndOut(4, 8, 0).kindFor(0, 1), 0);
        due("a lord: 0, less 0", inAndOut(0, 0, 0).kindFor(0, 1), 1);
        due("a boy: 6, less 2", inAndOut(4, 99, 0).kindFor(0, 1), 2);
        MangleKin widow = inAndOut(0, 2, 0);
        widow.person(1);
        widow.change(3, 1, 2);
        widow.list(0, 11);
        due("a widow: twice 1, less 1", widow.kindFor(0, 1), 3);
        MangleKin sunday = inAndOut(4, 99, 0);
        sunday.go(6);
        due("a sunday at TURN 6: 12", sunday.kindFor(0, 1), 4);
        due("a starched: 4, less 0", inAndOut(4, 8, 9).kindFor(0, 1), 5);
        MangleKin heir = with(0, 1, 1, 1);
        heir.damp(0);
        heir.change(0, 1, 0);
        heir.list(0, 15);
        for (int p = 1; p < 4; p++) {
            heir.change(p, 1, 99);
            heir.make(0, p, 10);
        }
        due("an heir: thrice 3", heir.kindFor(0, 1), 6);
    }

    @Says(promise = 23, value = "BEYOND.")
    void kindForBeyond() {
        MangleKin x = lords();
        for (int p : NOBODIES) {
            beyond("kindFor(" + p + ")", x.kindFor(p, 0));
        }
        for (int n : new int[] {-1, 41, LEAST, MOST}) {
            beyond("n " + n, x.kindFor(0, n));
        }
        beyond("nobody is there", new MangleKin().kindFor(0, 0));
    }

    // ---- 24: dampFor

    @Says(promise = 24, value = DAMP_FOR)
    void dampFor0To40Turns() {
        MangleKin x = lords();
        x.list(3, 3);
        due("n 0", x.dampFor(0, 1, 0, 0), 0);
        due("n 39, six times", x.dampFor(0, 1, 7, 39), 1);
        due("n 40, seven times", x.dampFor(0, 1, 7, 40), 0);
        due("n 40, one more", x.dampFor(0, 1, 8, 40), 1);
        due("n 40, seven times 10", x.dampFor(1, 0, 70, 40), 9);
        x.damp(4);
        due("damp itself doesn't matter", x.dampFor(0, 1, 7, 40), 0);
        due("it is as it was", x.now(4), 4);
    }

    @Says(promise = 24, value = DAMP_FOR)
    void dampForKinOf0To999() {
        MangleKin x = lords();
        x.list(0, 3);
        due("v 0", x.dampFor(0, 1, 0, 1), 0);
        due("v 1", x.dampFor(0, 1, 1, 1), 0);
        due("v 2", x.dampFor(0, 1, 2, 1), 1);
        due("v 10", x.dampFor(0, 1, 10, 1), 9);
        x.make(0, 1, 989);
        due("v 999", x.dampFor(0, 1, 999, 1), 9);
        x.make(0, 1, 999);
        due("v 999 now", x.dampFor(0, 1, 999, 0), 0);
    }

    @Says(promise = 24, value = SAME)
    void dampForBeyond() {
        MangleKin x = lords();
        beyond("one and the same", x.dampFor(1, 1, 0, 0));
        for (int p : NOBODIES) {
            beyond("dampFor(0, " + p + ")", x.dampFor(0, p, 0, 0));
            beyond("dampFor(" + p + ", 0)", x.dampFor(p, 0, 0, 0));
        }
        for (int v : NO_KIN) {
            beyond("v " + v, x.dampFor(0, 1, v, 0));
        }
        for (int n : new int[] {-1, 41, LEAST, MOST}) {
            beyond("n " + n, x.dampFor(0, 1, 0, n));
        }
    }

    @Says(promise = 24, value = "NONE.")
    void dampForNone() {
        MangleKin x = lords();
        x.list(3, 3);
        due("now", x.dampFor(0, 1, 1, 0), NONE);
        due("1 more than DAMP 9 does", x.dampFor(0, 1, 71, 40), NONE);
        due("1 more, a TURN less", x.dampFor(0, 1, 61, 39), NONE);
        due("as much as DAMP 9 does", x.dampFor(0, 1, 60, 39), 9);
    }

    // ---- 25: divorce

    @Says(promise = 25, value = DIVORCE)
    void divorce() {
        MangleKin x = eight(1);
        due("all as good: the least", x.divorce(1), 0);
        for (int p = 1; p < 8; p++) {
            x.make(p - 1, p, 999);
        }
        due("within a row, of several the least, for 999", x.divorce(999), 1);
        due("for 1", x.divorce(1), 1);
        x.make(0, 7, 1);
        x.make(1, 7, 1);
        x.make(2, 7, 1);
        due("a ring of six, and it has cords: for 1", x.divorce(1), 0);
        due("it doesn't count for 2", x.divorce(2), 1);
        due("one alone", with(0).divorce(999), 0);
        due("nothing changes", x.of(1, 4), 1999);
    }

    @Says(promise = 25, value = DIVORCE)
    void divorceTheLast() {
        MangleKin x = eight(1);
        for (int p = 0; p < 7; p++) {
            x.make(p, 7, 999);
        }
        due("the hub", x.divorce(999), 7);
    }

    @Says(promise = 25, value = "BEYOND.")
    void divorceBeyond() {
        MangleKin x = lords();
        for (int v : new int[] {0, -1, 1000, LEAST, MOST}) {
            beyond("for " + v, x.divorce(v));
        }
    }

    @Says(promise = 25, value = "NONE: nobody is there.")
    void divorceNone() {
        due("for 1", new MangleKin().divorce(1), NONE);
        due("for 999", new MangleKin().divorce(999), NONE);
    }

    // ---- 26, 27: fits, went

    @Says(promise = 26, value = FITS)
    void fitsOf256Sets() {
        MangleKin x = lords();
        fill(x, 0, 16, 0, 1);
        due("both", x.fits(0, 0, 0, 1), 64);
        fill(x, 0, 16, 0, 0);
        due("not both", x.fits(0, 0, 0, 1), 192);
        fill(x, 0, 16, 0, 2);
        due("no set", x.fits(0, 0, 0, 1), 0);
        fill(x, 0, 16, 0);
        due("all sets", x.fits(0, 5, 1, 0), 256);
        MangleKin y = eight(1);
        fill(y, 0, 16, 0, 5);
        due("the first and the last of eight", y.fits(0, 0, 0, 7), 64);
        fill(y, 0, 16, 0, 0);
        due("not both of eight", y.fits(0, 0, 0, 7), 192);
    }

    @Says(promise = 26, value = FITS)
    void fitsNow() {
        MangleKin x = lords();
        x.make(0, 1, 999);
        fill(x, 0, 16, 999);
        due("999", x.fits(0, 0, 0, 1), 256);
        fill(x, 0, 16, 998);
        due("998", x.fits(0, 0, 0, 1), 0);
        x.sheet(0, 16, 0);
        due("a sheet of no numbers", x.fits(0, 0, 0, 1), 256);
    }

    @Says(promise = 26, value = FITS)
    void fitsBehindEachTurnFurtherOn() {
        MangleKin x = lords();
        int[] numbers = anyBut(40, 7);
        numbers[38] = 6;
        fill(x, 0, 8, numbers);
        due("behind 38 and 39", x.fits(0, 2, 0, 1), 64);
        x.write(0, 39, 6);
        due("not so behind 39", x.fits(0, 2, 0, 1), 0);
        x.write(0, 39, 7);
        x.write(0, 38, 7);
        due("not so behind 38", x.fits(0, 2, 0, 1), 0);
        fill(x, 1, 16, 0, 0, 1);
        due("by place 1", x.fits(1, 1, 0, 1), 64);
        due("place 0 is too soon", x.fits(1, 0, 0, 1), 0);
        due("place 2 is too late", x.fits(1, 2, 0, 1), 0);
        x.go(3);
        fill(x, 1, 16, 0, 1);
        due("at TURN 3 place 3 is next", x.fits(1, 3, 0, 1), 64);
        due("not place 0", x.fits(1, 0, 0, 1), 0);
    }

    @Says(promise = 26, value = FITS)
    void fitsAny() {
        MangleKin x = lords();
        fill(x, 0, 16, -1, -1, -1);
        due("all any", x.fits(0, 0, 0, 1), 256);
        fill(x, 0, 8, 255, 1);
        due("of 8 bits 255 is any", x.fits(0, 0, 0, 1), 64);
        fill(x, 0, 16, 65535, 1);
        due("of 16 bits 65535 is any", x.fits(0, 0, 0, 1), 64);
        fill(x, 0, 16, 0, 1, -1);
        due("any behind", x.fits(0, 0, 0, 1), 64);
        fill(x, 0, 16, -2);
        due("-2 isn't any", x.fits(0, 0, 0, 1), 0);
        fill(x, 0, 32, 65535);
        due("of 32 bits 65535 isn't any", x.fits(0, 0, 0, 1), 0);
    }

    @Says(promise = 26, value = FITS)
    void fitsChangesNothing() {
        MangleKin x = lords();
        x.list(0, 9);
        fill(x, 0, 8, anyBut(40, 7));
        x.fits(0, 0, 0, 1);
        due("THE LIST", x.listed(0), 9);
        due("TURN and KIN", x.now(0) + x.now(1), 0);
        due("who is kept", x.now(3), -1);
    }

    @Says(promise = 26, value = "BEYOND: no such sheet.")
    void fitsNoSuchSheet() {
        MangleKin x = lords();
        x.sheet(3, 8, 0);
        due("sheet 3 is one", x.fits(3, 0, 0, 1), 256);
        for (int s : NO_SHEETS) {
            beyond("sheet " + s, x.fits(s, 0, 0, 1));
        }
    }

    @Says(promise = 26, value = "MISSING.")
    void fitsMissing() {
        MangleKin x = lords();
        for (int s = 0; s < 4; s++) {
            due("sheet " + s, x.fits(s, 0, 0, 1), MISSING);
        }
        x.sheet(2, 8, 0);
        due("no longer", x.fits(2, 0, 0, 1), 256);
        x.sheet(2, 0, 0);
        due("again", x.fits(2, 0, 0, 1), MISSING);
    }

    @Says(promise = 26, value = "BEYOND: no such place, no two.")
    void fitsNoSuchPlaceNoTwo() {
        MangleKin x = lords();
        x.sheet(0, 8, 0);
        for (int i : new int[] {-1, 6, LEAST, MOST}) {
            beyond("place " + i, x.fits(0, i, 0, 1));
        }
        beyond("one and the same", x.fits(0, 0, 1, 1));
        for (int p : NOBODIES) {
            beyond("fits(0, 0, 0, " + p + ")", x.fits(0, 0, 0, p));
            beyond("fits(0, 0, " + p + ", 0)", x.fits(0, 0, p, 0));
        }
    }

    @Says(promise = 27, value = "The least of them.")
    void wentTheLeast() {
        MangleKin x = lords();
        x.sheet(0, 8, 0);
        due("of all sets", x.went(0, 5, 0, 1), 0);
        fill(x, 0, 16, 0, 1);
        due("both", x.went(0, 0, 1, 0), 3);
        fill(x, 0, 16, 0, 0);
        due("not both", x.went(0, 0, 0, 1), 0);
        x.list(0, 2);
        x.go(1);
        fill(x, 0, 16, 0, 1);
        due("1 is kept", x.went(0, 1, 0, 1), 1);
        MangleKin y = eight(1);
        fill(y, 3, 8, anyBut(40, 35));
        due("the last two of eight, seven times", y.went(3, 2, 6, 7), 192);
        due("nothing changes", y.listed(2) + y.now(0) + y.now(1), 0);
    }

    @Says(promise = 27, value = "The least of them.")
    void wentTheLeastNotTheFewest() {
        MangleKin x = heirAndLord();
        x.list(0, 4);
        x.go(1);
        x.list(2, 12);
        nineToAll(x);
        fill(x, 0, 16, 9, -1, 12);
        due("0 and 1 do as much as 3 alone", x.went(0, 1, 2, 3), 3);
    }

    @Says(promise = 27, value = "BEYOND, MISSING, BEYOND likewise.")
    void wentBeyondMissingBeyond() {
        MangleKin x = lords();
        x.sheet(0, 8, 0);
        for (int s : NO_SHEETS) {
            beyond("sheet " + s, x.went(s, 0, 0, 1));
        }
        for (int s = 1; s < 4; s++) {
            due("sheet " + s, x.went(s, 0, 0, 1), MISSING);
        }
        for (int i : new int[] {-1, 6, LEAST, MOST}) {
            beyond("place " + i, x.went(0, i, 0, 1));
        }
        beyond("one and the same", x.went(0, 0, 1, 1));
        for (int p : NOBODIES) {
            beyond("went(0, 0, 0, " + p + ")", x.went(0, 0, 0, p));
            beyond("went(0, 0, " + p + ", 0)", x.went(0, 0, p, 0));
        }
    }

    @Says(promise = 27, value = "NONE.")
    void wentNone() {
        MangleKin x = lords();
        fill(x, 0, 16, 1);
        due("now it isn't so", x.went(0, 0, 0, 1), NONE);
        fill(x, 0, 16, 0, 2);
        due("no set does that", x.went(0, 0, 0, 1), NONE);
        fill(x, 0, 16, 0, 1);
        due("not that place", x.went(0, 1, 0, 1), NONE);
    }

    // ---- 28: kinds

    @Says(promise = 28, value = KINDS)
    void kindsByWhatTheyFade() {
        MangleKin x = with(0, 1);
        x.make(0, 1, 50);
        fill(x, 0, 16, 50, 49);
        due("person, widow, sunday", x.kinds(0, 0), 1 + 8 + 16);
        fill(x, 0, 16, 50, 50);
        due("lord, heir", x.kinds(0, 0), 2 + 64);
        fill(x, 0, 16, 50, 48);
        due("boy, starched", x.kinds(0, 0), 4 + 32);
        fill(x, 0, 16, 50, 47);
        due("no kind", x.kinds(0, 0), 0);
        due("nothing changes: KIND", x.of(0, 0), 0);
        due("nothing changes: TURN", x.now(0), 0);
    }

    @Says(promise = 28, value = KINDS)
    void kindsNow() {
        MangleKin x = with(0, 1, 1);
        x.make(0, 1, 50);
        x.make(0, 2, 999);
        fill(x, 0, 16, 1049);
        due("to all others together", x.kinds(0, 0), 127);
        fill(x, 0, 16, 50);
        due("not to one of them", x.kinds(0, 0), 0);
        x.sheet(0, 16, 0);
        due("a sheet of no numbers", x.kinds(0, 0), 127);
        MangleKin y = with(4);
        fill(y, 0, 16, 0, 0);
        due("there is no other one", y.kinds(0, 0), 127);
    }

    @Says(promise = 28, value = KINDS)
    void kindsBehindEachTurnFurtherOn() {
        MangleKin x = with(0, 1);
        x.make(0, 1, 999);
        fill(x, 0, 16, anyBut(40, 960));
        due("behind 39: person, widow, sunday", x.kinds(0, 0), 1 + 8 + 16);
        x.write(0, 39, 921);
        due("behind 39: boy, starched", x.kinds(0, 0), 4 + 32);
        x.write(0, 20, 980);
        due("not so behind 20", x.kinds(0, 0), 0);
    }

    @Says(promise = 28, value = KINDS)
    void kindsAny() {
        MangleKin x = with(0, 1);
        x.make(0, 1, 50);
        fill(x, 0, 16, -1, -1);
        due("all any", x.kinds(0, 0), 127);
        fill(x, 0, 8, 255, 48);
        due("of 8 bits 255 is any", x.kinds(0, 0), 4 + 32);
        fill(x, 0, 16, 50, -1, 46, -1);
        due("between and behind", x.kinds(0, 0), 4 + 32);
        fill(x, 0, 16, -2);
        due("-2 isn't any", x.kinds(0, 0), 0);
    }

    @Says(promise = 28, value = "BEYOND: no such sheet.")
    void kindsNoSuchSheet() {
        MangleKin x = lords();
        for (int s : NO_SHEETS) {
            beyond("sheet " + s, x.kinds(s, 0));
        }
    }

    @Says(promise = 28, value = "MISSING.")
    void kindsMissing() {
        MangleKin x = lords();
        for (int s = 0; s < 4; s++) {
            due("sheet " + s, x.kinds(s, 0), MISSING);
        }
    }

    @Says(promise = 28, value = "BEYOND: no such one.")
    void kindsNoSuchOne() {
        MangleKin x = lords();
        x.sheet(0, 8, 0);
        for (int p : NOBODIES) {
            beyond("kinds(0, " + p + ")", x.kinds(0, p));
        }
        due("the last is one", x.kinds(0, 1), 127);
    }
}
