/** Promises 32 to 34: texts. */
public final class TextTest extends Promises {
    public static void main(String[] args) {
        TextTest t = new TextTest();
        t.feed();
        t.wipe();
        t.whole();
        t.blanksAndDigits();
        t.noMoreThanTheTape();
        t.faults();
        t.faultsOfNumbers();
        t.ninth();
        t.nothingChangesByAFault();
        t.end();
    }

    private void feed() {
        MangleKin x = new MangleKin();
        due("32: 3 bytes, the highest first", x.feed(0x7a626f79, 3), 3);
        due("32: they are boy", x.text(), 1);
        due("32: 4", x.feed(0x64616d70, 4), 4);
        due("32: 1", x.feed(0x31, 1), 5);
        due("32: damp1", x.text(), 1);
        due("32: damp is 1", x.now(4), 1);
        beyond("32: n 0", x.feed(1, 0));
        beyond("32: n 5", x.feed(1, 5));
        beyond("32: n -1", x.feed(1, -1));
        for (int k = 0; k < 29; k++) {
            x.feed(0x20202020, 4);
        }
        due("32: 116", x.count(5), 116);
        due("32: 118", x.feed(0x2020, 2), 118);
        due("32: 3 more don't go", x.feed(0x626f79, 3), FULL);
        due("32: none of them went", x.count(5), 118);
        due("32: BEYOND is asked first", x.feed(0, 9), BEYOND);
        due("32: 2 more do", x.feed(0x2020, 2), 120);
        due("32: 121 don't", x.feed(32, 1), FULL);
        due("32: 120 blanks end too early", x.text(), -121);
        due("32: then it's empty", x.count(5), 0);
    }

    private void wipe() {
        MangleKin x = new MangleKin();
        x.feed(0x626f79, 3);
        due("33: it had 3", x.wipe(), 3);
        due("33: it's empty", x.wipe(), 0);
        due("33: nothing is read of it", x.text(), -1);
        due("33: nobody came", x.count(1), 0);
    }

    private void whole() {
        MangleKin x = new MangleKin();
        due("34: items", tell(x, "person;lord worth 9 kin 0 12;boy kin 1 999;widow worth 0"), 4);
        due("34: more", tell(x, "sunday;starched;heir worth 99 kin 6 1"), -35);
        due("34: more, well", tell(x, "sunday;starched;heir worth 99 kin 5 1"), 3);
        due("34: list and damp", tell(x, "list 0 255;list 5 7;damp 9;damp 0;list 0 3"), 5);
        for (int p = 0; p < 7; p++) {
            due("34: kind " + p, x.of(p, 0), p);
        }
        int[] worths = {4, 9, 4, 0, 4, 4, 99};
        for (int p = 0; p < 7; p++) {
            due("34: worth " + p, x.of(p, 1), worths[p]);
        }
        due("34: kin 0 and 1", x.kin(0, 1), 12);
        due("34: kin 2 and 1", x.kin(1, 2), 999);
        due("34: kin 6 and 5", x.kin(5, 6), 1);
        due("34: kin of all", x.now(1), 1012);
        due("34: place 0", x.listed(0), 3);
        due("34: place 5", x.listed(5), 7);
        due("34: damp", x.now(4), 0);
        due("34: faults are no findings", x.status(-1), 0);
    }

    private void blanksAndDigits() {
        MangleKin x = new MangleKin();
        due("34: blanks all over", tell(x, "  boy  worth   5  ;  damp   2  "), 2);
        due("34: no blanks", tell(x, "boy;heir worth6kin0 77;damp8"), 3);
        due("34: worth", x.of(2, 1), 6);
        due("34: kin", x.kin(2, 0), 77);
        due("34: zeros ahead", tell(x, "list 0000000000000005 0000000000255"), 1);
        due("34: place 5", x.listed(5), 255);
        due("34: many digits", tell(x, "damp 4294967296000000000000000000000000000001"), -6);
        due("34: 2 to the 32nd and 1", tell(x, "damp 4294967297"), -6);
        due("34: damp is left", x.now(4), 8);
    }

    /** What stood on the tape behind its end isn't read again. */
    private void noMoreThanTheTape() {
        MangleKin x = new MangleKin();
        Due.feedAll(x, "boys 55");
        x.wipe();
        due("34: boy", tell(x, "boy"), 1);
        Due.feedAll(x, "damp 55");
        x.wipe();
        due("34: damp 5", tell(x, "damp 5"), 1);
        due("34: damp is 5", x.now(4), 5);
        due("34: a word up to byte 120", tell(x, " ".repeat(117) + "boy"), 1);
        due("34: a number up to byte 120", tell(x, "damp" + "0".repeat(115) + "8"), 1);
        due("34: damp is 8", x.now(4), 8);
        due("34: a sign as byte 120", tell(x, "damp" + "0".repeat(115) + ";"), -121);
    }

    private void fault(String text, int at) {
        due("34: " + text, tell(with(0, 0), text), -1 - at);
    }

    private void faults() {
        fault("", 0);
        fault("   ", 3);
        fault(";", 0);
        fault("boy;", 4);
        fault("boy;  ", 6);
        fault("boy;;lord", 4);
        fault("boys", 0);
        fault("bo", 0);
        fault("toy", 0);
        fault("boyz", 0);
        fault("hist 0 1", 0);
        fault("boz", 0);
        fault("boy lord", 4);
        fault("worth 5", 0);
        fault("kin 0 1", 0);
        fault("5", 0);
        fault("boy 5", 4);
        fault("boy worth", 9);
        fault("boy worth ", 10);
        fault("boy worth;", 9);
        fault("boy worth kin", 10);
        fault("boy worth 5 worth 5", 12);
        fault("boy kin", 7);
        fault("boy kin 0", 9);
        fault("boy kin 0;", 9);
        fault("boy kin 0 1 2", 12);
        fault("boy kin 0 1 kin 0 1", 12);
        fault("boy kin 0 1 worth 1", 12);
        fault("list", 4);
        fault("list 0", 6);
        fault("list ;", 5);
        fault("list 0 1 2", 9);
        fault("damp", 4);
        fault("damp 1 2", 7);
        fault("damp 1;damp", 11);
        fault("BOY", 0);
        fault("boY", 0);
        fault("boyY", 3);
        fault("boy\tworth", 3);
        fault("boy,lord", 3);
        fault("damp -1", 5);
        fault("boy;lord;" + (char) 255, 9);
        fault("boy;" + (char) 0, 4);
        fault("lists 0 1", 0);
        fault("damps 1", 0);
        fault("dam 1", 0);
        fault("boy worths 4", 4);
        fault("boy kins 0 1", 4);
    }

    private void faultsOfNumbers() {
        fault("boy worth 100", 10);
        fault("boy worth 1000", 10);
        fault("boy kin 2 1", 8);
        fault("boy;boy kin 3 1", 12);
        fault("boy kin 0 1000", 10);
        fault("list 6 0", 5);
        fault("list 0 256", 7);
        fault("damp 10", 5);
        MangleKin x = new MangleKin();
        due("34: nobody is there already", tell(x, "boy kin 0 1"), -9);
        due("34: the edges stand", tell(x, "boy worth 99;boy worth 0 kin 0 999;list 5 255;list 0 0;damp 9"), 5);
    }

    private void ninth() {
        MangleKin x = with(0, 0, 0, 0, 0, 0, 0);
        due("34: an 8th and a 9th", tell(x, "boy; boy"), -6);
        due("34: there are 7", x.count(1), 7);
        due("34: an 8th", tell(x, "boy kin 6 3;list 0 1"), 2);
        due("34: a 9th", tell(x, "heir"), -1);
        due("34: a 9th with a later fault", tell(x, "damp 2;heir worth 500"), -8);
        due("34: its kin", x.kin(6, 7), 3);
    }

    private void nothingChangesByAFault() {
        MangleKin x = with(0, 0);
        x.list(0, 3);
        x.seed(5);
        due("34: a late fault", tell(x, "damp 1;list 0 0;boy kin 0 5;heir worth 7;no"), -42);
        due("34: damp", x.now(4), 3);
        due("34: list", x.listed(0), 3);
        due("34: people", x.count(1), 2);
        due("34: kin", x.now(1), 0);
        due("34: z", x.count(6), 5);
        due("34: the tape is empty", x.count(5), 0);
        due("34: no finding", x.status(-1), 0);
        x.person(0);
        due("34: a new one has no kin of the draft", x.of(2, 4), 0);
        due("34: nor its worth", x.of(2, 1), 4);
        x.hold(3, 1);
        x.go(1);
        due("34: a good one", tell(x, "damp 1"), 1);
        due("34: leaves turn", x.now(0), 1);
        due("34: leaves who is kept", x.now(3), 1);
        due("34: leaves spots", x.count(7), 1);
        due("34: leaves z", x.count(6), 5);
    }
}
