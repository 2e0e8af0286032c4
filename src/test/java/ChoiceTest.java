/** Promises 21 to 25: whom to put in. */
public final class ChoiceTest extends Promises {
    public static void main(String[] args) {
        ChoiceTest t = new ChoiceTest();
        t.put();
        t.putWithWhoIsKept();
        t.putComesRoundAgain();
        t.apart();
        t.kindFor();
        t.dampFor();
        t.divorce();
        t.nothingChanges();
        t.end();
    }

    private void put() {
        MangleKin x = with(0, 0, 0);
        due("21: kin 0 is there already", x.put(0, 2, 0, 0), 0);
        due("21: behind no turn nothing helps", x.put(0, 2, 1, 0), NONE);
        due("21: both", x.put(0, 2, 7, 1), 5);
        due("21: the other way", x.put(2, 0, 7, 1), 5);
        due("21: too near", x.put(0, 2, 8, 1), NONE);
        x.list(0, 7);
        due("21: the place is told anew", x.put(0, 1, 0, 1), 0);
        due("21: two of it", x.put(0, 1, 7, 1), 3);
        x.list(0, 0);
        x.list(1, 1);
        due("21: who is kept meets the next: of two the least", x.put(0, 1, 7, 2), 2);
        due("21: for 2 likewise", x.put(0, 2, 7, 2), 4);
        beyond("21: v 1000", x.put(0, 1, 1000, 1));
        beyond("21: v -1", x.put(0, 1, -1, 1));
        beyond("21: n 13", x.put(0, 1, 0, 13));
        beyond("21: n -1", x.put(0, 1, 0, -1));
        beyond("21: the same", x.put(1, 1, 0, 1));
        beyond("21: nobody", x.put(0, 3, 0, 1));
        due("21: n 12", x.put(0, 1, 999, 12), NONE);
    }

    private void putWithWhoIsKept() {
        MangleKin x = with(0, 0, 0);
        x.list(0, 4);
        x.go(1);
        due("21: who is kept goes in anyway", x.put(0, 2, 7, 1), 1);
        x.list(1, 7);
        due("21: at the place of turn 1", x.put(0, 1, 7, 1), 3);
        due("21: the list is as it was", x.listed(1), 7);
    }

    private void putComesRoundAgain() {
        MangleKin x = with(0, 0);
        due("21: 7, less 5, and 7", x.put(0, 1, 9, 7), 3);
        due("21: not more", x.put(0, 1, 10, 7), NONE);
    }

    private void apart() {
        MangleKin x = with(0, 0, 0);
        x.list(0, 7);
        x.list(1, 3);
        due("22: nobody need be left out", x.apart(0, 1, 7, 1), 0);
        due("22: one of two, the least", x.apart(0, 1, 6, 1), 1);
        due("22: it's 0 then", x.apart(0, 1, 0, 1), 1);
        due("22: two turns", x.apart(0, 1, 13, 2), 1);
        due("22: 14 comes anyway", x.apart(0, 1, 14, 2), 0);
        due("22: 1 is in without 0", x.apart(1, 2, 0, 1), 2);
        x.make(0, 1, 50);
        due("22: it can't fade so fast", x.apart(0, 1, 48, 1), NONE);
        due("22: 49 it can be", x.apart(0, 1, 49, 1), 1);
        due("22: now", x.apart(0, 1, 50, 0), 0);
        due("22: now it isn't", x.apart(0, 1, 49, 0), NONE);
        x.iron(0);
        x.go(1);
        due("22: 2 is kept", x.now(3), 2);
        due("22: who is kept goes in all the same", x.apart(0, 2, 6, 1), 1);
        due("22: the list is as it was", x.listed(0), 7);
        beyond("22: v 1000", x.apart(0, 1, 1000, 1));
        beyond("22: v -1", x.apart(0, 1, -1, 1));
        beyond("22: n 13", x.apart(0, 1, 0, 13));
        beyond("22: n -1", x.apart(0, 1, 0, -1));
        beyond("22: the same", x.apart(1, 1, 0, 1));
        beyond("22: nobody", x.apart(3, 0, 0, 1));
    }

    private void kindFor() {
        MangleKin x = with(3, 0);
        due("23: now all are as good", x.kindFor(0, 0), 0);
        x.list(0, 3);
        x.change(1, 1, 50);
        due("23: a boy brings most", x.kindFor(0, 1), 2);
        due("23: the boy's fading costs more: a sunday at turn 6", x.kindFor(0, 7), 4);
        x.list(0, 0);
        x.make(0, 1, 500);
        due("23: all but boy and starched fade as a person", x.kindFor(0, 40), 0);
        x.change(1, 0, 1);
        due("23: lords don't fade", x.kindFor(0, 40), 1);
        x.damp(9);
        due("23: nor do lord, starched, heir: the least", x.kindFor(0, 40), 1);
        due("23: alone", with(4).kindFor(0, 40), 0);
        due("23: kind is as it was", x.of(0, 0), 3);
        beyond("23: n 41", x.kindFor(0, 41));
        beyond("23: n -1", x.kindFor(0, -1));
        beyond("23: nobody", x.kindFor(2, 0));
        beyond("23: nobody below", x.kindFor(-1, 0));
    }

    private void dampFor() {
        MangleKin x = with(0, 5);
        x.list(0, 3);
        due("24: now", x.dampFor(0, 1, 0, 0), 0);
        due("24: by damp alone", x.dampFor(0, 1, 4, 1), 4);
        due("24: starch helps from 5 on", x.dampFor(0, 1, 5, 1), 5);
        due("24: 5 and 4", x.dampFor(0, 1, 9, 1), 5);
        due("24: 9 and 4", x.dampFor(0, 1, 13, 1), 9);
        due("24: too near", x.dampFor(0, 1, 14, 1), NONE);
        due("24: damp is as it was", x.now(4), 3);
        beyond("24: v 1000", x.dampFor(0, 1, 1000, 1));
        beyond("24: v -1", x.dampFor(0, 1, -1, 1));
        beyond("24: n 41", x.dampFor(0, 1, 0, 41));
        beyond("24: n -1", x.dampFor(0, 1, 0, -1));
        beyond("24: the same", x.dampFor(0, 0, 0, 1));
        beyond("24: nobody", x.dampFor(0, 2, 0, 1));
    }

    private void divorce() {
        MangleKin x = with(0, 0, 0, 0, 0);
        due("25: nobody is near: the least", x.divorce(1), 0);
        x.make(2, 0, 5);
        x.make(2, 1, 5);
        x.make(2, 3, 5);
        x.make(3, 4, 9);
        due("25: the middle", x.divorce(5), 2);
        due("25: for 6 the least of 3 and 4", x.divorce(6), 3);
        due("25: for 10", x.divorce(10), 0);
        due("25: kin is as it was", x.kin(2, 3), 5);
        beyond("25: v 0", x.divorce(0));
        beyond("25: v 1000", x.divorce(1000));
        due("25: nobody is there", new MangleKin().divorce(1), NONE);
        due("25: BEYOND is asked first", new MangleKin().divorce(0), BEYOND);
        due("25: one alone", with(0).divorce(999), 0);
    }

    private void nothingChanges() {
        MangleKin x = with(0, 0, 0);
        x.list(0, 7);
        x.put(0, 1, 5, 12);
        x.apart(0, 1, 5, 12);
        x.kindFor(0, 40);
        x.dampFor(0, 1, 20, 40);
        x.divorce(1);
        due("21 to 25: turn", x.now(0), 0);
        due("21 to 25: kin", x.now(1), 0);
        due("21 to 25: who goes in", x.now(2), 7);
        due("21 to 25: damp", x.now(4), 3);
    }
}
