/** Promises 13 to 16: how near. */
public final class NearTest extends Promises {
    public static void main(String[] args) {
        NearTest t = new NearTest();
        t.steps();
        t.clans();
        t.clan();
        t.tie();
        t.theLongestWay();
        t.end();
    }

    /** 0 and 1 by 10, 1 and 2 by 20, 2 and 3 by 5, 0 and 3 by 2; 4 alone. */
    private static MangleKin chain() {
        MangleKin x = with(0, 0, 0, 0, 0);
        x.make(0, 1, 10);
        x.make(1, 2, 20);
        x.make(2, 3, 5);
        x.make(0, 3, 2);
        return x;
    }

    private void steps() {
        MangleKin x = chain();
        due("13: next", x.steps(0, 1, 10), 1);
        due("13: kin is one less", x.steps(0, 1, 11), NONE);
        due("13: two", x.steps(0, 2, 10), 2);
        due("13: the other way", x.steps(2, 0, 10), 2);
        due("13: three", x.steps(0, 3, 5), 3);
        due("13: the short way", x.steps(0, 3, 2), 1);
        due("13: none", x.steps(0, 3, 6), NONE);
        due("13: one alone", x.steps(0, 4, 1), NONE);
        due("13: NONE is counted", x.status(3), 3);
        beyond("13: the same", x.steps(0, 0, 1));
        beyond("13: v 0", x.steps(0, 1, 0));
        beyond("13: v 1000", x.steps(0, 1, 1000));
        beyond("13: nobody", x.steps(0, 5, 1));
        beyond("13: nobody below", x.steps(-1, 0, 1));
        due("13: v 999", x.steps(0, 1, 999), NONE);
    }

    private void clans() {
        MangleKin x = chain();
        due("14: for 1", x.clans(1), 2);
        due("14: for 5", x.clans(5), 2);
        due("14: for 6", x.clans(6), 3);
        due("14: for 11", x.clans(11), 4);
        due("14: for 999", x.clans(999), 5);
        due("14: nobody", new MangleKin().clans(1), 0);
        due("14: one", with(3).clans(1), 1);
        beyond("14: for 0", x.clans(0));
        beyond("14: for 1000", x.clans(1000));
    }

    private void clan() {
        MangleKin x = chain();
        due("15: for 1", x.clan(3, 1), 15);
        due("15: for 6", x.clan(0, 6), 7);
        due("15: 3 for 6", x.clan(3, 6), 8);
        due("15: alone", x.clan(4, 1), 16);
        beyond("15: v 0", x.clan(0, 0));
        beyond("15: v 1000", x.clan(0, 1000));
        beyond("15: nobody", x.clan(5, 1));
        beyond("15: nobody below", x.clan(-1, 1));
    }

    private void tie() {
        MangleKin x = chain();
        due("16: next", x.tie(0, 1), 10);
        due("16: over one", x.tie(0, 2), 10);
        due("16: the wider way", x.tie(0, 3), 5);
        due("16: the other way", x.tie(3, 0), 5);
        due("16: alone", x.tie(0, 4), NONE);
        x.make(0, 4, 999);
        due("16: 999", x.tie(4, 0), 999);
        x.make(0, 3, 1);
        x.make(2, 3, 0);
        due("16: 1", x.tie(3, 4), 1);
        beyond("16: the same", x.tie(2, 2));
        beyond("16: nobody", x.tie(0, 5));
        beyond("16: nobody below", x.tie(-1, 0));
    }

    private void theLongestWay() {
        MangleKin x = with(0, 0, 0, 0, 0, 0, 0, 0);
        int[] way = {3, 7, 0, 5, 1, 6, 2, 4};
        for (int k = 1; k < way.length; k++) {
            x.make(way[k - 1], way[k], 100 + k);
        }
        due("13: seven steps", x.steps(3, 4, 101), 7);
        due("13: none", x.steps(3, 4, 102), NONE);
        due("14: one clan", x.clans(101), 1);
        due("14: two", x.clans(102), 2);
        due("15: all", x.clan(4, 101), 255);
        due("15: all but 3", x.clan(4, 102), 247);
        due("16: the weakest counts", x.tie(3, 4), 101);
        due("16: from 7 on", x.tie(7, 4), 102);
    }
}
