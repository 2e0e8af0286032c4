/** Promises 42 to 46, sentence by sentence: images, counts, status. */
public final class SaidOfImagesTest extends Sentences {
    private static final String IMAGE = "All but THE TAPE and SHEETS is kept: 1.";
    private static final String UNDO = "It becomes what was kept latest (which stays): TURN.";
    private static final String COUNT = "0 TURN, 1 PEOPLE, 2 CLANS for 1, 3 KIN of all two together, 4 the greatest "
        + "KIN of two (0: fewer than two), 5 bytes of THE TAPE, 6 z, 7 SPOTS that hold something.";
    private static final String STATUS = "How many acts answered a finding ever (undo() takes none back): which -1: "
        + "all, 0 to 6: BEYOND to SIZE.";

    public static void main(String[] args) throws Exception { new SaidOfImagesTest().askAll(); }

    @Says(promise = 42, value = IMAGE)
    void allIsKept() {
        MangleKin x = with(5, 2);
        x.damp(9);
        x.list(0, 3);
        x.list(5, 255);
        x.change(0, 1, 99);
        x.go(1);
        x.seed(LEAST);
        x.hold(0, 1);
        x.hold(9, 0);
        due("image", x.image(), 1);
        x.damp(0);
        x.list(0, 0);
        x.list(5, 0);
        x.change(0, 0, 0);
        x.change(0, 1, 0);
        x.make(0, 1, 999);
        x.person(6);
        x.hold(0, -1);
        x.hold(9, 2);
        x.hold(5, 2);
        x.list(1, 4);
        x.washes(3);
        due("undo", x.undo(), 1);
        due("damp", x.now(4), 9);
        due("place 0", x.listed(0), 3);
        due("place 1", x.listed(1), 0);
        due("place 5", x.listed(5), 255);
        due("TURN", x.now(0), 1);
        due("who is kept", x.now(3), 1);
        due("people", x.count(1), 2);
        due("kind", x.of(0, 0), 5);
        due("worth", x.of(0, 1), 99);
        due("KIN: 6 and 9", x.kin(0, 1), 15);
        due("z", x.count(6), LEAST);
        due("spots", x.count(7), 2);
        due("spot 0", x.as(0, 0), 1);
        due("spot 9", x.as(9, 0), 0);
        due("a new one is as new: number", x.person(1), 2);
        due("a new one is as new: worth", x.of(2, 1), 4);
        due("a new one is as new: KIN", x.of(2, 4), 0);
    }

    @Says(promise = 42, value = IMAGE)
    void nobodyAndAFullHouse() {
        MangleKin x = new MangleKin();
        due("of nobody", x.image(), 1);
        for (int p = 0; p < 8; p++) {
            x.person(0);
        }
        x.make(6, 7, 999);
        due("undo", x.undo(), 0);
        due("nobody", x.count(1), 0);
        due("there is room", x.person(3), 0);
        MangleKin y = eight(0);
        y.make(6, 7, 999);
        due("of eight", y.image(), 1);
        y.iron(7);
        due("undo", y.undo(), 0);
        due("eight", y.count(1), 8);
        due("their KIN", y.kin(7, 6), 999);
        due("there is no room", y.person(3), FULL);
    }

    @Says(promise = 42, value = IMAGE)
    void theTapeAndSheetsAreNot() {
        MangleKin x = with(0);
        Due.feedAll(x, "da");
        fill(x, 0, 8, 1, 2);
        fill(x, 1, 8, 3);
        x.image();
        Due.feedAll(x, "mp 7");
        x.write(0, 1, 9);
        x.sheet(1, 0, 0);
        x.sheet(2, 16, 1);
        x.undo();
        due("bytes", x.count(5), 6);
        due("the tape is read", x.text(), 1);
        due("damp", x.now(4), 7);
        due("sheet 0", x.load(0), 2);
        due("its number", x.listed(1), 9);
        due("sheet 1", x.load(1), MISSING);
        due("sheet 2", x.load(2), 1);
        x.undo();
        due("an empty tape stays empty", x.count(5), 0);
    }

    @Says(promise = 43, value = UNDO)
    void theLatest() {
        MangleKin x = with(0);
        x.image();
        x.go(60);
        x.damp(5);
        x.image();
        x.go(1);
        x.damp(6);
        due("TURN", x.undo(), 60);
        due("damp", x.now(4), 5);
    }

    @Says(promise = 43, value = UNDO)
    void whichStays() {
        MangleKin x = with(0);
        x.image();
        for (int k = 0; k < 3; k++) {
            x.damp(9);
            x.go(1);
            x.list(0, 1);
            x.change(0, 1, 99);
            due("TURN", x.undo(), 0);
            due("damp", x.now(4), 3);
            due("place 0", x.listed(0), 0);
            due("worth", x.of(0, 1), 4);
        }
        due("at once again", x.undo(), 0);
        due("something was kept still", x.tear(), 1);
    }

    @Says(promise = 43, value = "NONE: nothing is kept.")
    void undoNone() {
        MangleKin x = with(0);
        x.damp(9);
        due("never", x.undo(), NONE);
        due("it is as it was", x.now(4), 9);
        x.image();
        due("something is", x.undo(), 0);
        x.tear();
        due("no longer", x.undo(), NONE);
        due("NONE is counted", x.status(3), 2);
    }

    @Says(promise = 44, value = "Nothing is kept: 1 if something was, else 0.")
    void tear() {
        MangleKin x = with(0);
        due("nothing was", x.tear(), 0);
        x.image();
        x.image();
        x.damp(9);
        due("something was", x.tear(), 1);
        due("nothing was any more", x.tear(), 0);
        due("nothing is kept", x.undo(), NONE);
        due("what is so stays", x.now(4), 9);
        due("kept anew", x.image(), 1);
        due("undone", x.undo(), 0);
        due("torn anew", x.tear(), 1);
    }

    @Says(promise = 45, value = COUNT)
    void countsOfNothing() {
        int[] counts = {0, 0, 0, 0, 0, 0, 1, 0};
        MangleKin x = new MangleKin();
        for (int what = 0; what < 8; what++) {
            due("count(" + what + ")", x.count(what), counts[what]);
        }
    }

    @Says(promise = 45, value = COUNT)
    void countsOfFewerThanTwo() {
        MangleKin x = with(6);
        due("PEOPLE", x.count(1), 1);
        due("CLANS", x.count(2), 1);
        due("KIN", x.count(3), 0);
        due("the greatest KIN", x.count(4), 0);
        x.person(6);
        due("the greatest KIN of two strangers", x.count(4), 0);
        x.make(0, 1, 1);
        due("the greatest KIN of two", x.count(4), 1);
    }

    @Says(promise = 45, value = COUNT)
    void countsOfMost() {
        MangleKin x = eight(0);
        x.go(60);
        due("TURN", x.count(0), 60);
        due("CLANS of strangers", x.count(2), 8);
        for (int p = 0; p < 8; p++) {
            for (int q = 0; q < p; q++) {
                x.make(p, q, 999);
            }
        }
        Due.feedAll(x, blanks(120));
        x.seed(LEAST);
        for (int spot = 0; spot < 10; spot++) {
            x.hold(spot, 0);
        }
        int[] counts = {60, 8, 1, 27972, 999, 120, LEAST, 10};
        for (int what = 0; what < 8; what++) {
            due("count(" + what + ")", x.count(what), counts[what]);
        }
    }

    @Says(promise = 45, value = COUNT)
    void clansFor1AndTheGreatestKin() {
        MangleKin x = with(0, 0, 0);
        x.make(1, 2, 1);
        due("CLANS for 1, not for 2", x.count(2), 2);
        due("the greatest KIN", x.count(4), 1);
        x.make(0, 2, 998);
        due("one CLAN", x.count(2), 1);
        due("the greatest KIN", x.count(4), 998);
        due("KIN of all two together", x.count(3), 999);
    }

    @Says(promise = 45, value = "BEYOND: another what.")
    void countBeyond() {
        MangleKin x = with(0, 0);
        for (int what : new int[] {-1, 8, LEAST, MOST}) {
            beyond("count(" + what + ")", x.count(what));
        }
        due("BEYOND is counted", x.status(0), 4);
    }

    @Says(promise = 46, value = STATUS)
    void eachFinding() {
        MangleKin x = eight(0);
        x.hold(0, 0);
        int[] times = {3, 4, 5, 6, 0, 7, 8};
        for (int k = 0; k < 8; k++) {
            if (k < times[0]) { x.damp(10); }
            if (k < times[1]) { x.person(0); }
            if (k < times[2]) { x.as(0, 1); }
            if (k < times[3]) { x.undo(); }
            if (k < times[5]) { x.load(0); }
            if (k < times[6]) { x.sheet(0, 8, -1); }
        }
        for (int which = 0; which <= 6; which++) {
            due("status(" + which + ")", x.status(which), times[which]);
        }
        due("all", x.status(-1), 33);
    }

    @Says(promise = 46, value = STATUS)
    void undoTakesNoneBack() {
        MangleKin x = new MangleKin();
        x.damp(10);
        x.image();
        x.damp(10);
        x.load(0);
        x.undo();
        due("BEYOND", x.status(0), 2);
        due("MISSING", x.status(5), 1);
        due("all", x.status(-1), 3);
        x.tear();
        x.undo();
        due("NONE of undo() itself", x.status(3), 1);
    }

    @Says(promise = 46, value = STATUS)
    void alsoInLongs() {
        MangleKin x = new MangleKin();
        due("odds", x.odds(0, 0, 0), BEYOND);
        due("it is counted", x.status(0), 1);
    }

    @Says(promise = 46, value = STATUS)
    void otherAnswersAreNone() {
        MangleKin x = new MangleKin();
        x.now(3);
        x.now(5);
        x.seed(BEYOND);
        x.count(6);
        x.text();
        due("-1, z and a FAULT", x.status(-1), 0);
    }

    @Says(promise = 46, value = "BEYOND (counted from then on): another one.")
    void statusBeyond() {
        MangleKin x = new MangleKin();
        int n = 0;
        for (int which : new int[] {-2, 7, LEAST, MOST}) {
            beyond("status(" + which + ")", x.status(which));
            n++;
            due("counted from then on", x.status(0), n);
            due("counted among all", x.status(-1), n);
        }
    }
}
