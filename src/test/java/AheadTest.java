/** Promises 17 to 20: what will be; nothing changes. */
public final class AheadTest extends Promises {
    public static void main(String[] args) {
        AheadTest t = new AheadTest();
        t.ahead();
        t.when();
        t.first();
        t.one();
        t.nothingChanges();
        t.end();
    }

    /** 0 and 1 go in at place 0, by 7 each time; kin fades by 1 else. */
    private static MangleKin couple() {
        MangleKin x = with(0, 0);
        x.list(0, 3);
        return x;
    }

    private void ahead() {
        MangleKin x = couple();
        due("17: now", x.ahead(0, 1, 0), 0);
        due("17: behind 1", x.ahead(0, 1, 1), 7);
        due("17: behind 6", x.ahead(1, 0, 6), 2);
        due("17: behind 7", x.ahead(0, 1, 7), 9);
        due("17: behind 60", x.ahead(0, 1, 60), 20);
        beyond("17: 61", x.ahead(0, 1, 61));
        beyond("17: -1", x.ahead(0, 1, -1));
        beyond("17: the same", x.ahead(1, 1, 0));
        beyond("17: nobody", x.ahead(0, 2, 0));
    }

    private void when() {
        MangleKin x = couple();
        due("18: 0", x.when(0, 1, 0), 0);
        due("18: 1", x.when(0, 1, 1), 1);
        due("18: 7", x.when(0, 1, 7), 1);
        due("18: 8", x.when(1, 0, 8), 7);
        due("18: 39 comes with turn 97", x.when(0, 1, 39), 97);
        due("18: 40 comes too late", x.when(0, 1, 40), NONE);
        due("18: 999", x.when(0, 1, 999), NONE);
        beyond("18: 1000", x.when(0, 1, 1000));
        beyond("18: -1", x.when(0, 1, -1));
        beyond("18: the same", x.when(0, 0, 0));
        beyond("18: nobody", x.when(2, 0, 0));
        MangleKin late = couple();
        late.go(3);
        due("18: 39 with turn 97", late.when(0, 1, 39), 94);
        due("18: 41 with turn 103", late.when(0, 1, 41), 100);
        MangleKin soon = couple();
        soon.go(2);
        due("18: 41 with turn 103, 101 on", soon.when(0, 1, 41), NONE);
    }

    private void first() {
        MangleKin x = with(0, 0, 2, 2);
        x.list(0, 3);
        x.list(1, 12);
        due("19: 0", x.first(0), 0);
        due("19: 7", x.first(7), 1);
        due("19: the boys with 9", x.first(9), 2);
        due("19: 999", x.first(999), NONE);
        MangleKin two = couple();
        two.go(3);
        due("19: two people, 41 with turn 103", two.first(41), 100);
        MangleKin soon = couple();
        soon.go(2);
        due("19: 101 on", soon.first(41), NONE);
        beyond("19: 1000", x.first(1000));
        beyond("19: -1", x.first(-1));
        due("19: one alone", with(0).first(0), NONE);
        due("19: nobody", new MangleKin().first(0), NONE);
    }

    private void one() {
        MangleKin x = with(0, 0, 0);
        x.list(0, 3);
        x.list(1, 6);
        due("20: for 1", x.one(1), 2);
        due("20: for 6", x.one(6), 2);
        due("20: for 7, when who is kept goes in with both", x.one(7), 7);
        due("20: for 999", x.one(999), NONE);
        x.make(0, 1, 9);
        x.make(0, 2, 9);
        due("20: now", x.one(9), 0);
        due("20: nobody", new MangleKin().one(999), 0);
        due("20: one", with(0).one(999), 0);
        due("20: two strangers", with(0, 0).one(1), NONE);
        MangleKin late = couple();
        late.go(3);
        due("20: 41 with turn 103", late.one(41), 100);
        MangleKin soon = couple();
        soon.go(2);
        due("20: 101 on", soon.one(41), NONE);
        beyond("20: for 0", x.one(0));
        beyond("20: for 1000", x.one(1000));
    }

    private void nothingChanges() {
        MangleKin x = couple();
        x.ahead(0, 1, 60);
        x.when(0, 1, 999);
        x.first(999);
        x.one(999);
        due("17 to 20: turn", x.now(0), 0);
        due("17 to 20: kin", x.kin(0, 1), 0);
        due("17 to 20: kept", x.now(3), -1);
    }
}
