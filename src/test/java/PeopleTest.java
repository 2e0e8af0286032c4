/** Promises 1 to 10: a new object; damp, list, people. */
public final class PeopleTest extends Promises {
    public static void main(String[] args) {
        PeopleTest t = new PeopleTest();
        t.aNewObject();
        t.damp();
        t.list();
        t.person();
        t.of();
        t.whatKindsBring();
        t.whatKindsFade();
        t.change();
        t.kin();
        t.make();
        t.iron();
        t.end();
    }

    private void aNewObject() {
        MangleKin x = new MangleKin();
        int[] nows = {0, 0, 0, -1, 3, -1};
        for (int what = 0; what < nows.length; what++) {
            due("1: now(" + what + ")", x.now(what), nows[what]);
        }
        int[] counts = {0, 0, 0, 0, 0, 0, 1, 0};
        for (int what = 0; what < counts.length; what++) {
            due("1: count(" + what + ")", x.count(what), counts[what]);
        }
        for (int i = 0; i < 6; i++) {
            due("1: listed(" + i + ")", x.listed(i), 0);
        }
        for (int which = -1; which <= 6; which++) {
            due("1: status(" + which + ")", x.status(which), 0);
        }
        for (int s = 0; s < 4; s++) {
            due("1: load(" + s + ")", x.load(s), MISSING);
        }
        for (int spot = 0; spot < 10; spot++) {
            due("1: as(" + spot + ", 0)", x.as(spot, 0), MISSING);
        }
        due("1: wipe()", x.wipe(), 0);
        due("1: undo()", x.undo(), NONE);
        due("1: tear()", x.tear(), 0);
    }

    private void damp() {
        MangleKin x = new MangleKin();
        due("2: damp(7)", x.damp(7), 3);
        due("2: damp(0)", x.damp(0), 7);
        due("2: damp(9)", x.damp(9), 0);
        beyond("2: damp(10)", x.damp(10));
        beyond("2: damp(-1)", x.damp(-1));
        beyond("2: damp(least)", x.damp(Integer.MIN_VALUE));
        beyond("2: damp(most)", x.damp(Integer.MAX_VALUE));
        due("2: damp stays", x.now(4), 9);
        due("2: all are counted", x.status(0), 4);
    }

    private void list() {
        MangleKin x = new MangleKin();
        due("3: list(0, 255)", x.list(0, 255), 0);
        due("3: list(0, 6)", x.list(0, 6), 255);
        due("3: list(5, 1)", x.list(5, 1), 0);
        due("3: list(5, 0)", x.list(5, 0), 1);
        beyond("3: list(6, 0)", x.list(6, 0));
        beyond("3: list(-1, 0)", x.list(-1, 0));
        beyond("3: list(0, 256)", x.list(0, 256));
        beyond("3: list(0, -1)", x.list(0, -1));
        due("4: a set of nobody is told as it was", x.listed(0), 6);
        due("4: listed(5)", x.listed(5), 0);
        beyond("4: listed(6)", x.listed(6));
        beyond("4: listed(-1)", x.listed(-1));
    }

    private void person() {
        MangleKin x = new MangleKin();
        for (int kind = 0; kind < 7; kind++) {
            due("5: person(" + kind + ")", x.person(kind), kind);
            due("5: its kind", x.of(kind, 0), kind);
            due("5: its worth", x.of(kind, 1), 4);
        }
        beyond("5: person(7)", x.person(7));
        beyond("5: person(-1)", x.person(-1));
        due("5: the 8th", x.person(0), 7);
        due("5: a 9th", x.person(0), FULL);
        due("5: BEYOND is asked first", x.person(7), BEYOND);
        due("5: there are 8", x.count(1), 8);
        due("5: FULL is counted", x.status(1), 1);
    }

    private void of() {
        MangleKin x = with(0, 1, 2);
        due("6: nearest where all are as near", x.of(1, 5), 0);
        x.make(0, 1, 3);
        x.make(0, 2, 8);
        due("6: kind", x.of(1, 0), 1);
        due("6: worth", x.of(1, 1), 4);
        due("6: brings", x.of(1, 2), 2);
        due("6: fades", x.of(2, 3), 2);
        due("6: kin together", x.of(0, 4), 11);
        due("6: kin together of another", x.of(1, 4), 3);
        due("6: nearest", x.of(0, 5), 2);
        x.make(0, 1, 8);
        due("6: of several nearest the least", x.of(0, 5), 1);
        due("6: nobody else", with(4).of(0, 5), -1);
        due("6: nobody else, together", with(4).of(0, 4), 0);
        beyond("6: of(0, 6)", x.of(0, 6));
        beyond("6: of(0, -1)", x.of(0, -1));
        beyond("6: of(3, 0)", x.of(3, 0));
        beyond("6: of(-1, 0)", x.of(-1, 0));
        beyond("6: of(most, least)", x.of(Integer.MAX_VALUE, Integer.MIN_VALUE));
    }

    private void whatKindsBring() {
        MangleKin x = with(0, 1, 2, 3, 4, 5, 6);
        for (int p = 0; p < 7; p++) {
            x.change(p, 1, 7);
        }
        int[] brings = {7, 3, 9, 4, 4, 0, 3};
        for (int p = 0; p < 7; p++) {
            due("6: kind " + p + " brings", x.of(p, 2), brings[p]);
        }
        x.damp(4);
        due("6: starched, damp 4", x.of(5, 2), 0);
        x.damp(5);
        due("6: starched, damp 5", x.of(5, 2), 7);
        x.make(6, 0, 9);
        due("6: heir, kin 9", x.of(6, 2), 3);
        x.make(6, 0, 10);
        x.make(6, 1, 999);
        x.make(0, 1, 500);
        due("6: heir, near two", x.of(6, 2), 5);
        due("6: a lord isn't an heir", x.of(1, 2), 3);
        x.go(5);
        due("6: sunday, turn 5", x.of(4, 2), 4);
        x.go(1);
        due("6: sunday, turn 6", x.of(4, 2), 13);
        due("6: widow, turn 6", x.of(3, 2), 4);
        x.go(1);
        due("6: sunday, turn 7", x.of(4, 2), 4);
        x.go(6);
        due("6: sunday, turn 13", x.of(4, 2), 13);
        x.change(4, 1, 0);
        due("6: sunday of no worth, turn 13", x.of(4, 2), 10);
    }

    private void whatKindsFade() {
        MangleKin x = with(0, 1, 2, 3, 4, 5, 6);
        int[] fades = {1, 0, 2, 1, 1, 2, 0};
        for (int p = 0; p < 7; p++) {
            due("6: kind " + p + " fades", x.of(p, 3), fades[p]);
        }
        int[] starched = {3, 3, 3, 2, 2, 2, 1, 1, 1, 0};
        for (int damp = 0; damp < 10; damp++) {
            x.damp(damp);
            due("6: starched fades, damp " + damp, x.of(5, 3), starched[damp]);
        }
    }

    private void change() {
        MangleKin x = with(2, 0);
        due("7: kind", x.change(0, 0, 6), 2);
        due("7: kind back", x.change(0, 0, 0), 6);
        due("7: worth", x.change(0, 1, 99), 4);
        due("7: worth 0", x.change(0, 1, 0), 99);
        beyond("7: kind 7", x.change(0, 0, 7));
        beyond("7: kind -1", x.change(0, 0, -1));
        beyond("7: worth 100", x.change(0, 1, 100));
        beyond("7: worth -1", x.change(0, 1, -1));
        beyond("7: what 2", x.change(0, 2, 0));
        beyond("7: what -1", x.change(0, -1, 0));
        beyond("7: nobody", x.change(2, 0, 0));
        beyond("7: nobody below", x.change(-1, 1, 0));
        due("7: kind is left", x.of(0, 0), 0);
        due("7: worth is left", x.of(0, 1), 0);
        due("7: the other one is as it was", x.of(1, 1), 4);
    }

    private void kin() {
        MangleKin x = with(0, 0, 0);
        due("8: at first", x.kin(0, 1), 0);
        x.make(2, 1, 17);
        due("8: one way", x.kin(1, 2), 17);
        due("8: the other way", x.kin(2, 1), 17);
        due("8: others", x.kin(0, 2), 0);
        beyond("8: the same", x.kin(1, 1));
        beyond("8: kin(0, 3)", x.kin(0, 3));
        beyond("8: kin(3, 0)", x.kin(3, 0));
        beyond("8: kin(-1, 0)", x.kin(-1, 0));
        beyond("8: kin(0, least)", x.kin(0, Integer.MIN_VALUE));
    }

    private void make() {
        MangleKin x = with(0, 0);
        due("9: make", x.make(0, 1, 999), 0);
        due("9: make the other way", x.make(1, 0, 0), 999);
        beyond("9: 1000", x.make(0, 1, 1000));
        beyond("9: -1", x.make(0, 1, -1));
        beyond("9: the same", x.make(0, 0, 5));
        beyond("9: nobody", x.make(0, 2, 5));
        beyond("9: nobody first", x.make(-1, 0, 5));
        due("9: kin is left", x.kin(0, 1), 0);
    }

    private void iron() {
        MangleKin x = with(0, 0, 0);
        x.make(0, 1, 5);
        x.make(0, 2, 6);
        x.make(1, 2, 7);
        due("10: iron", x.iron(0), 11);
        due("10: its kin", x.of(0, 4), 0);
        due("10: seen from the other", x.kin(1, 0), 0);
        due("10: kin of others", x.kin(1, 2), 7);
        due("10: again", x.iron(0), 0);
        x.make(0, 2, 4);
        due("10: the last one", x.iron(2), 11);
        due("10: its kin to the first", x.kin(0, 2), 0);
        beyond("10: nobody", x.iron(3));
        beyond("10: nobody below", x.iron(-1));
    }
}
