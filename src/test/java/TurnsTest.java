/** Promises 11 and 12: turns. */
public final class TurnsTest extends Promises {
    public static void main(String[] args) {
        TurnsTest t = new TurnsTest();
        t.twoGoIn();
        t.theRollersKeep();
        t.theLesserBrings();
        t.theGreaterFades();
        t.asAllIsAhead();
        t.theEnds();
        t.findings();
        t.now();
        t.theLastTurn();
        t.end();
    }

    private void twoGoIn() {
        MangleKin x = with(0, 0, 0);
        x.list(0, 3);
        due("11: worth 4 and damp 3", x.go(1), 7);
        due("11: kin", x.kin(0, 1), 7);
        due("11: not with the third", x.kin(0, 2), 0);
        due("11: a turn more", x.now(0), 1);
        due("11: it fades", x.go(3), 4);
        due("11: turn 4", x.now(0), 4);
        due("11: to the place again", x.go(3), 9);
    }

    private void theRollersKeep() {
        MangleKin x = with(0, 0, 0);
        x.list(0, 3);
        x.list(1, 4);
        x.go(1);
        due("12: the greatest number is kept", x.now(3), 1);
        due("12: it goes in next", x.now(2), 6);
        due("11: kept with the next", x.go(1), 13);
        due("11: who was kept is kin", x.kin(1, 2), 7);
        due("11: who wasn't fades", x.kin(0, 1), 6);
        due("12: now the last", x.now(3), 2);
        x.list(2, 1);
        x.go(1);
        due("12: of those that went in", x.now(3), 2);
        due("11: kept twice", x.kin(0, 2), 7);
        MangleKin y = with(0, 0);
        y.list(0, 252);
        due("12: those that there aren't don't go in", y.now(2), 0);
        due("11: nobody", y.go(1), 0);
        due("12: nobody is kept", y.now(3), -1);
        y.list(1, 255);
        due("11: both", y.go(1), 7);
        due("12: the greatest that is there", y.now(3), 1);
        y.go(9);
        due("12: still kept", y.now(3), 1);
    }

    private void theLesserBrings() {
        MangleKin x = with(0, 1, 2);
        x.change(0, 1, 20);
        x.change(1, 1, 9);
        x.change(2, 1, 10);
        x.damp(0);
        x.list(0, 7);
        due("11: 4, 12 and 4", x.go(1), 20);
        due("11: person and lord", x.kin(0, 1), 4);
        due("11: person and boy", x.kin(0, 2), 12);
        due("11: lord and boy", x.kin(1, 2), 4);
        MangleKin y = with(0, 0);
        y.damp(9);
        y.list(0, 3);
        due("11: damp is added", y.go(1), 13);
        MangleKin z = with(4, 0);
        z.change(1, 1, 50);
        z.list(0, 3);
        z.go(6);
        due("11: one turn of sunday, five fade", z.kin(0, 1), 1);
        due("11: the next is turn 6, place 0: 3 and 9, and 3", z.go(1), 16);
    }

    private void theGreaterFades() {
        MangleKin x = with(1, 1, 0, 2, 5);
        for (int a = 0; a < 5; a++) {
            for (int b = 0; b < a; b++) {
                x.make(a, b, 50);
            }
        }
        x.damp(0);
        x.go(1);
        due("11: two lords", x.kin(0, 1), 50);
        due("11: lord and person", x.kin(0, 2), 49);
        due("11: person and boy", x.kin(2, 3), 48);
        due("11: boy and starched, dry", x.kin(3, 4), 47);
        due("11: lord and starched, dry", x.kin(0, 4), 47);
        x.damp(9);
        x.go(1);
        due("11: lord and starched, damp", x.kin(0, 4), 47);
        due("11: person and starched, damp", x.kin(2, 4), 46);
    }

    private void asAllIsAhead() {
        MangleKin x = with(6, 0, 0);
        x.make(0, 1, 9);
        x.list(0, 7);
        x.go(1);
        due("11: heir of 2", x.kin(0, 1), 14);
        due("11: as all was ahead", x.kin(0, 2), 5);
        x.list(1, 7);
        x.go(1);
        due("11: heir of 3 now", x.kin(0, 2), 11);
    }

    private void theEnds() {
        MangleKin x = with(0, 0, 2);
        x.make(0, 1, 998);
        x.make(0, 2, 1);
        x.list(0, 3);
        x.go(1);
        due("11: 999 at most", x.kin(0, 1), 999);
        due("11: 0 at least", x.kin(0, 2), 0);
        x.make(0, 1, 992);
        x.list(1, 3);
        x.go(1);
        due("11: 999 exactly", x.kin(0, 1), 999);
    }

    private void findings() {
        MangleKin x = with(0, 0);
        beyond("11: go(0)", x.go(0));
        beyond("11: go(61)", x.go(61));
        beyond("11: go(-1)", x.go(-1));
        beyond("11: go(least)", x.go(Integer.MIN_VALUE));
        due("11: no turn went by", x.now(0), 0);
        due("11: go(60)", x.go(60), 0);
        due("11: 60 turns", x.now(0), 60);
    }

    private void now() {
        MangleKin x = with(0, 0, 0, 0);
        due("12: all as near: the least two", x.now(5), 1);
        x.make(2, 3, 8);
        due("12: 2 and 3", x.now(5), 19);
        x.make(3, 1, 8);
        due("12: of several the least", x.now(5), 11);
        due("12: together", x.now(1), 16);
        x.damp(6);
        due("12: damp", x.now(4), 6);
        x.list(0, 250);
        due("12: who is there", x.now(2), 10);
        due("12: one alone", with(0).now(5), -1);
        beyond("12: now(6)", x.now(6));
        beyond("12: now(-1)", x.now(-1));
    }

    /**
     * TURN 99999 lies beyond the 512 calls for which an object is promised; the class keeps its words there
     * too, and there is no other way to see STATE.
     */
    private void theLastTurn() {
        MangleKin x = with(0, 0);
        for (int k = 0; k < 1666; k++) {
            x.go(60);
        }
        due("11: turn", x.now(0), 99960);
        due("11: 40 turns would be too many", x.go(40), STATE);
        x.washes(20);
        due("29: 20 washes go", x.now(0), 99980);
        due("29: 20 more don't", x.washes(20), STATE);
        x.image();
        x.washes(19);
        due("29: the last turn", x.now(0), 99999);
        x.undo();
        x.go(19);
        due("11: the last turn", x.now(0), 99999);
        due("11: no more", x.go(1), STATE);
        due("29: no more", x.washes(1), STATE);
        due("11: BEYOND is asked first", x.go(61), BEYOND);
        due("29: BEYOND is asked first", x.washes(21), BEYOND);
        due("46: STATE is counted", x.status(4), 4);
        x.make(0, 1, 50);
        due("17: what will be stays at the last turn", x.ahead(0, 1, 0), 50);
        x.list(99999 % 6, 0);
        due("17: the same place each time", x.ahead(0, 1, 3), 47);
    }
}
