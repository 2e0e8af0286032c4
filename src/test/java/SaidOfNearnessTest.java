/** Promises 13 to 20, sentence by sentence: how near; what will be. */
public final class SaidOfNearnessTest extends Sentences {
    private static final int[] NOBODIES = {-1, 3, 8, LEAST, MOST};
    private static final String SAME = "BEYOND: also one and the same.";

    public static void main(String[] args) throws Exception { new SaidOfNearnessTest().askAll(); }

    /** Three, of whom 0 and 1 are kin by 5, and 2 to nobody. */
    private static MangleKin three() {
        MangleKin x = with(1, 1, 1);
        x.make(0, 1, 5);
        return x;
    }

    /** 0 to 7, each kin by 999 to the next one alone. */
    private static MangleKin row() {
        MangleKin x = eight(1);
        for (int p = 1; p < 8; p++) {
            x.make(p - 1, p, 999);
        }
        return x;
    }

    /** Two lords who gain 1 in each TURN of one place. */
    private static MangleKin lordsAt(int place) {
        MangleKin x = lords();
        x.list(place, 3);
        return x;
    }

    // ---- how near

    @Says(promise = 13, value = "How many STEPS it takes at least from one to another one, for v (1 to 999).")
    void steps() {
        MangleKin x = row();
        due("one, for 999", x.steps(0, 1, 999), 1);
        due("one, for 1", x.steps(7, 6, 1), 1);
        due("seven", x.steps(0, 7, 999), 7);
        due("seven back", x.steps(7, 0, 1), 7);
        x.make(0, 4, 500);
        due("at least: the short way for 500", x.steps(0, 7, 500), 4);
        due("the long one for 501", x.steps(0, 7, 501), 7);
        x.make(0, 7, 1);
        due("at least: at once for 1", x.steps(0, 7, 1), 1);
    }

    @Says(promise = 13, value = SAME)
    void stepsBeyond() {
        MangleKin x = three();
        beyond("one and the same", x.steps(1, 1, 1));
        for (int p : NOBODIES) {
            beyond("steps(0, " + p + ")", x.steps(0, p, 1));
            beyond("steps(" + p + ", 0)", x.steps(p, 0, 1));
        }
        for (int v : new int[] {0, -1, 1000, LEAST, MOST}) {
            beyond("for " + v, x.steps(0, 1, v));
        }
    }

    @Says(promise = 13, value = "NONE: there are none.")
    void stepsNone() {
        MangleKin x = three();
        due("KIN is one less", x.steps(0, 1, 6), NONE);
        due("to one alone", x.steps(0, 2, 1), NONE);
        due("from one alone", x.steps(2, 1, 1), NONE);
        due("KIN 0", with(0, 0).steps(0, 1, 1), NONE);
        MangleKin y = row();
        y.make(3, 4, 998);
        due("the middle of seven is one less", y.steps(0, 7, 999), NONE);
    }

    @Says(promise = 14, value = "How many CLANS there are for v (1 to 999).")
    void clans() {
        MangleKin x = row();
        due("one of all, for 999", x.clans(999), 1);
        due("one of all, for 1", x.clans(1), 1);
        x.make(3, 4, 998);
        due("two, for 999", x.clans(999), 2);
        due("one, for 998", x.clans(998), 1);
        due("eight alone", eight(0).clans(1), 8);
        due("one alone", with(0).clans(999), 1);
        due("nobody is there", new MangleKin().clans(1), 0);
    }

    @Says(promise = 14, value = "BEYOND.")
    void clansBeyond() {
        MangleKin x = three();
        for (int v : new int[] {0, -1, 1000, LEAST, MOST}) {
            beyond("for " + v, x.clans(v));
        }
        beyond("nobody is there, for 0", new MangleKin().clans(0));
    }

    @Says(promise = 15, value = "The CLAN of one for v, as a set.")
    void clan() {
        MangleKin x = row();
        due("all, of the first", x.clan(0, 999), 255);
        due("all, of the last", x.clan(7, 1), 255);
        x.make(3, 4, 998);
        due("the lesser half", x.clan(0, 999), 15);
        due("the greater half", x.clan(7, 999), 240);
        due("one alone", eight(0).clan(7, 1), 128);
        due("there is no other one", with(0).clan(0, 999), 1);
    }

    @Says(promise = 15, value = "BEYOND.")
    void clanBeyond() {
        MangleKin x = three();
        for (int v : new int[] {0, -1, 1000, LEAST, MOST}) {
            beyond("for " + v, x.clan(0, v));
        }
        for (int p : NOBODIES) {
            beyond("clan(" + p + ")", x.clan(p, 1));
        }
        beyond("nobody is there", new MangleKin().clan(0, 1));
    }

    @Says(promise = 16, value = "The greatest v (1 to 999) for which two are in one CLAN.")
    void tie() {
        MangleKin x = row();
        due("999, over six", x.tie(0, 7), 999);
        x.make(3, 4, 1);
        due("1, over six", x.tie(7, 0), 1);
        due("those before are as they were", x.tie(0, 3), 999);
        x.make(0, 7, 500);
        due("at once", x.tie(0, 7), 500);
        due("round about", x.tie(3, 4), 500);
        x.make(0, 7, 0);
        x.make(2, 5, 2);
        due("of two ways the greater", x.tie(0, 7), 2);
    }

    @Says(promise = 16, value = SAME)
    void tieBeyond() {
        MangleKin x = three();
        beyond("one and the same", x.tie(1, 1));
        for (int p : NOBODIES) {
            beyond("tie(0, " + p + ")", x.tie(0, p));
            beyond("tie(" + p + ", 0)", x.tie(p, 0));
        }
    }

    @Says(promise = 16, value = "NONE.")
    void tieNone() {
        MangleKin x = three();
        due("to one alone", x.tie(0, 2), NONE);
        due("from one alone", x.tie(2, 1), NONE);
        MangleKin y = row();
        y.make(3, 4, 0);
        due("between the halves", y.tie(0, 7), NONE);
    }

    // ---- what will be

    @Says(promise = 17, value = "KIN of two behind n (0 to 60) TURNS.")
    void ahead() {
        MangleKin x = lordsAt(5);
        x.make(0, 1, 100);
        due("0: now", x.ahead(0, 1, 0), 100);
        due("5: not yet", x.ahead(0, 1, 5), 100);
        due("6", x.ahead(1, 0, 6), 101);
        due("59", x.ahead(0, 1, 59), 109);
        due("60", x.ahead(0, 1, 60), 110);
        due("nothing changes: TURN", x.now(0), 0);
        due("nothing changes: KIN", x.kin(0, 1), 100);
        due("nothing changes: who is kept", x.now(3), -1);
    }

    @Says(promise = 17, value = SAME)
    void aheadBeyond() {
        MangleKin x = three();
        beyond("one and the same", x.ahead(1, 1, 0));
        for (int p : NOBODIES) {
            beyond("ahead(0, " + p + ")", x.ahead(0, p, 0));
            beyond("ahead(" + p + ", 0)", x.ahead(p, 0, 0));
        }
        for (int n : new int[] {-1, 61, LEAST, MOST}) {
            beyond("behind " + n, x.ahead(0, 1, n));
        }
    }

    @Says(promise = 18, value = "Behind how many TURNS (0 to 100, the fewest) KIN of two is v (0 to 999) or more.")
    void when() {
        MangleKin x = lordsAt(3);
        due("v 0: now", x.when(0, 1, 0), 0);
        due("v 1", x.when(1, 0, 1), 4);
        due("v 16", x.when(0, 1, 16), 94);
        due("v 17: behind 100", x.when(0, 1, 17), 100);
        x.make(0, 1, 999);
        due("v 999: now", x.when(0, 1, 999), 0);
        MangleKin y = with(0, 0);
        y.make(0, 1, 20);
        due("the fewest, though it fades", y.when(0, 1, 20), 0);
        due("nothing changes", y.now(0) * 1000 + y.kin(0, 1), 20);
    }

    @Says(promise = 18, value = SAME)
    void whenBeyond() {
        MangleKin x = three();
        beyond("one and the same", x.when(1, 1, 0));
        for (int p : NOBODIES) {
            beyond("when(0, " + p + ")", x.when(0, p, 0));
            beyond("when(" + p + ", 0)", x.when(p, 0, 0));
        }
        for (int v : new int[] {-1, 1000, LEAST, MOST}) {
            beyond("for " + v, x.when(0, 1, v));
        }
    }

    @Says(promise = 18, value = "NONE.")
    void whenNone() {
        MangleKin x = lordsAt(4);
        due("v 17: behind 101", x.when(0, 1, 17), NONE);
        due("v 16: behind 95", x.when(0, 1, 16), 95);
        due("v 999", x.when(0, 1, 999), NONE);
        due("v 1, never", with(0, 0).when(0, 1, 1), NONE);
    }

    @Says(promise = 19, value = "Behind how many TURNS (0 to 100, the fewest) KIN of any two is v (0 to 999) or "
        + "more.")
    void first() {
        MangleKin x = lordsAt(3);
        due("v 0: now", x.first(0), 0);
        due("v 1", x.first(1), 4);
        due("v 17: behind 100", x.first(17), 100);
        x.make(0, 1, 999);
        due("v 999: now", x.first(999), 0);
        MangleKin y = eight(1);
        y.damp(0);
        y.list(1, 192);
        due("any two: the last", y.first(2), 2);
        y.list(0, 3);
        due("any two: the fewest", y.first(2), 1);
        due("nothing changes", y.now(0) + y.now(1), 0);
    }

    @Says(promise = 19, value = "Behind how many TURNS (0 to 100, the fewest) KIN of any two is v (0 to 999) or "
        + "more.")
    void firstOfTwoNotOfAllTogether() {
        MangleKin x = row();
        for (int p = 1; p < 8; p++) {
            x.make(p - 1, p, 5);
        }
        due("35 together, 5 each: v 5", x.first(5), 0);
        due("v 6", x.first(6), NONE);
        x.list(2, 192);
        due("v 6: 6 and 7 go in behind two", x.first(6), 3);
    }

    @Says(promise = 19, value = "BEYOND.")
    void firstBeyond() {
        MangleKin x = three();
        for (int v : new int[] {-1, 1000, LEAST, MOST}) {
            beyond("for " + v, x.first(v));
        }
    }

    @Says(promise = 19, value = "NONE.")
    void firstNone() {
        MangleKin x = lordsAt(4);
        due("v 17: behind 101", x.first(17), NONE);
        due("v 999", x.first(999), NONE);
        due("no two: one alone", with(0).first(0), NONE);
        due("no two: nobody is there", new MangleKin().first(0), NONE);
    }

    @Says(promise = 20, value = "Behind how many TURNS (0 to 100, the fewest) all are in one CLAN for v (1 to 999).")
    void one() {
        MangleKin x = lordsAt(3);
        due("for 1", x.one(1), 4);
        due("for 17: behind 100", x.one(17), 100);
        x.make(0, 1, 999);
        due("for 999: now", x.one(999), 0);
        due("all of eight: now", row().one(999), 0);
        MangleKin y = with(1, 1, 1);
        y.damp(0);
        y.list(0, 3);
        y.list(1, 6);
        due("all, not two alone", y.one(2), 2);
        due("one alone: now", with(0).one(999), 0);
        due("nobody is there: now", new MangleKin().one(1), 0);
        due("nothing changes", y.now(0) + y.now(1), 0);
    }

    @Says(promise = 20, value = "BEYOND.")
    void oneBeyond() {
        MangleKin x = three();
        for (int v : new int[] {0, -1, 1000, LEAST, MOST}) {
            beyond("for " + v, x.one(v));
        }
    }

    @Says(promise = 20, value = "NONE.")
    void oneNone() {
        MangleKin x = lordsAt(4);
        due("for 17: behind 101", x.one(17), NONE);
        due("for 999", x.one(999), NONE);
        due("for 1, never", three().one(1), NONE);
    }
}
