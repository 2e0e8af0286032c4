/** Promises 42 to 46: images. */
public final class ImageTest extends Promises {
    public static void main(String[] args) {
        ImageTest t = new ImageTest();
        t.allComesBack();
        t.tapeAndSheetsDoNot();
        t.whatIsKeptStays();
        t.tear();
        t.count();
        t.status();
        t.everyFindingIsCounted();
        t.end();
    }

    private void allComesBack() {
        MangleKin x = with(0, 5);
        x.change(0, 1, 11);
        x.make(0, 1, 20);
        x.damp(6);
        x.list(2, 3);
        x.list(0, 3);
        x.go(1);
        x.seed(77);
        x.hold(4, 1);
        int kin = x.kin(0, 1);
        due("42: image", x.image(), 1);
        x.change(0, 1, 99);
        x.change(1, 0, 6);
        x.damp(0);
        x.list(2, 9);
        x.washes(5);
        x.hold(4, 0);
        x.hold(5, 0);
        x.person(2);
        x.make(0, 2, 400);
        x.hold(6, 2);
        due("43: undo tells turn", x.undo(), 1);
        due("43: turn", x.now(0), 1);
        due("43: who is kept", x.now(3), 1);
        due("43: damp", x.now(4), 6);
        due("43: worth", x.of(0, 1), 11);
        due("43: kind", x.of(1, 0), 5);
        due("43: kin", x.kin(0, 1), kin);
        due("43: kin of all", x.now(1), kin);
        due("43: list", x.listed(2), 3);
        due("43: z", x.count(6), 77);
        due("43: people", x.count(1), 2);
        due("43: spots", x.count(7), 1);
        due("43: spot 4", x.as(4, 0), 1);
        due("43: a new one is as new", x.person(0), 2);
        due("43: with no kin", x.of(2, 4), 0);
    }

    private void tapeAndSheetsDoNot() {
        MangleKin x = with(0);
        fill(x, 0, 8, 1);
        x.feed(0x64, 1);
        x.image();
        x.write(0, 0, 42);
        x.sheet(1, 8, 2);
        x.feed(0x616d7039, 4);
        x.undo();
        due("43: the tape stays", x.count(5), 5);
        due("43: it is read", x.text(), 1);
        due("43: damp 9", x.now(4), 9);
        due("43: sheet 1 stays", x.load(1), 2);
        due("43: sheet 0 stays", x.load(0), 1);
        due("43: with its number", x.listed(0), 42);
    }

    private void whatIsKeptStays() {
        MangleKin x = with(0);
        x.image();
        x.damp(5);
        x.undo();
        x.damp(7);
        due("43: again", x.undo(), 0);
        due("43: damp", x.now(4), 3);
        x.damp(8);
        due("42: a later one", x.image(), 1);
        x.damp(1);
        x.undo();
        due("43: the latest", x.now(4), 8);
        x.undo();
        due("43: the latest still", x.now(4), 8);
    }

    private void tear() {
        MangleKin x = with(0);
        due("43: nothing is kept", x.undo(), NONE);
        due("44: nothing was", x.tear(), 0);
        x.image();
        x.image();
        x.damp(9);
        due("44: something was", x.tear(), 1);
        due("44: all of it is gone", x.tear(), 0);
        due("44: nothing is kept", x.undo(), NONE);
        due("44: damp is left", x.now(4), 9);
        due("44: NONE is counted", x.status(3), 2);
    }

    private void count() {
        MangleKin x = with(0, 0, 0);
        x.make(0, 1, 5);
        x.make(1, 2, 8);
        x.feed(0x2020, 2);
        x.seed(-5);
        x.hold(1, 0);
        x.hold(2, 0);
        int[] counts = {0, 3, 1, 13, 8, 2, -5, 2};
        for (int what = 0; what < counts.length; what++) {
            due("45: count(" + what + ")", x.count(what), counts[what]);
        }
        x.go(8);
        due("45: turn", x.count(0), 8);
        due("45: clans for 1", x.count(2), 3);
        x.make(0, 1, 1);
        due("45: clans for 1, kin 1", x.count(2), 2);
        beyond("45: count(8)", x.count(8));
        beyond("45: count(-1)", x.count(-1));
        due("45: one alone", with(0).count(4), 0);
        x.seed(-1000001);
        due("45: z like BEYOND", x.count(6), -1000001);
        due("45: is no finding", x.status(-1), 2);
    }

    private void status() {
        MangleKin x = new MangleKin();
        due("46: none", x.status(-1), 0);
        beyond("46: status(7)", x.status(7));
        due("46: it is counted from then on", x.status(0), 1);
        beyond("46: status(-2)", x.status(-2));
        beyond("46: status(least)", x.status(Integer.MIN_VALUE));
        due("46: three", x.status(0), 3);
        due("46: all", x.status(-1), 3);
        x.image();
        x.damp(10);
        x.undo();
        due("46: undo takes none back", x.status(0), 4);
        x.text();
        due("46: a fault is no finding", x.status(-1), 4);
    }

    private void everyFindingIsCounted() {
        MangleKin x = with(0, 0, 0, 0, 0, 0, 0, 0);
        x.hold(0, 0);
        x.person(0);
        x.as(0, 1);
        x.as(0, 1);
        x.tie(0, 1);
        x.tie(0, 1);
        x.tie(0, 1);
        for (int k = 0; k < 4; k++) {
            x.load(0);
        }
        for (int k = 0; k < 5; k++) {
            x.sheet(0, 8, -1);
        }
        for (int k = 0; k < 6; k++) {
            x.iron(8);
        }
        int[] counts = {6, 1, 2, 3, 0, 4, 5};
        for (int which = 0; which < counts.length; which++) {
            due("46: status(" + which + ")", x.status(which), counts[which]);
        }
        due("46: all", x.status(-1), 21);
    }
}
