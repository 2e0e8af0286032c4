/** Promises 1 to 12, sentence by sentence: a new object; damp, list, people; turns. */
public final class SaidOfPeopleTest extends Sentences {
    private static final String OF = "Of one: what 0 KIND, 1 WORTH, 2 BRINGS, 3 FADES, 4 KIN to all others together, "
        + "5 to whom its KIN is greatest (-1: there is no other one).";
    private static final String NOW = "What 0 TURN, 1 KIN of all two together, 2 who GOES IN next (and is there), "
        + "as a set, 3 who is KEPT (-1: nobody), 4 DAMP, 5 the two whose KIN is greatest (8 times the lesser number "
        + "and the other one, the least; -1: fewer than two).";
    private static final String AT_FIRST = "All as at first; nobody; THE TAPE is empty, no image is kept.";

    public static void main(String[] args) throws Exception { new SaidOfPeopleTest().askAll(); }

    @Says(promise = 1, value = AT_FIRST)
    void allAsAtFirst() {
        MangleKin x = new MangleKin();
        for (int which = -1; which <= 6; which++) {
            due("status(" + which + ")", x.status(which), 0);
        }
        due("TURN", x.now(0), 0);
        due("KIN of all", x.now(1), 0);
        due("who goes in", x.now(2), 0);
        due("who is kept", x.now(3), -1);
        due("damp", x.now(4), 3);
        due("z", x.count(6), 1);
        due("spots", x.count(7), 0);
        for (int i = 0; i < 6; i++) {
            due("listed(" + i + ")", x.listed(i), 0);
        }
        for (int s = 0; s < 4; s++) {
            due("sheet " + s, x.load(s), MISSING);
        }
        for (int spot = 0; spot < 10; spot++) {
            due("spot " + spot, x.as(spot, 0), MISSING);
        }
    }

    @Says(promise = 1, value = AT_FIRST)
    void nobody() {
        MangleKin x = new MangleKin();
        due("people", x.count(1), 0);
        due("clans", x.count(2), 0);
        due("greatest KIN", x.count(4), 0);
        beyond("of(0, 0)", x.of(0, 0));
        due("the first one", x.person(0), 0);
    }

    @Says(promise = 1, value = AT_FIRST)
    void theTapeIsEmpty() {
        MangleKin x = new MangleKin();
        due("bytes", x.count(5), 0);
        due("nothing to read", x.text(), -1);
        due("nothing to wipe", x.wipe(), 0);
    }

    @Says(promise = 1, value = AT_FIRST)
    void noImageIsKept() {
        MangleKin x = new MangleKin();
        due("nothing to tear", x.tear(), 0);
        due("nothing to undo", x.undo(), NONE);
    }

    @Says(promise = 1, value = AT_FIRST)
    void oneObjectIsNotAnother() {
        MangleKin x = eight(0);
        x.damp(9);
        x.image();
        x.feed(1, 4);
        x.sheet(0, 8, 1);
        x.hold(0, 0);
        x.list(0, 255);
        x.seed(9);
        x.go(1);
        x.damp(10);
        allAsAtFirst();
    }

    @Says(promise = 2, value = "DAMP becomes v: what it was.")
    void dampBecomes() {
        MangleKin x = new MangleKin();
        int was = 3;
        for (int v = 0; v <= 9; v++) {
            due("damp(" + v + ")", x.damp(v), was);
            due("now(4)", x.now(4), v);
            was = v;
        }
        due("as it is", x.damp(9), 9);
    }

    @Says(promise = 2, value = "BEYOND.")
    void dampBeyond() {
        MangleKin x = new MangleKin();
        for (int v : new int[] {-1, 10, LEAST, MOST}) {
            beyond("damp(" + v + ")", x.damp(v));
        }
        due("it is as it was", x.now(4), 3);
    }

    @Says(promise = 3, value = "THE LIST tells a set (0 to 255) for place i (0 to 5): which it was.")
    void theListTells() {
        MangleKin x = new MangleKin();
        for (int i = 0; i < 6; i++) {
            due("255 at place " + i, x.list(i, 255), 0);
            due("0 at place " + i, x.list(i, 0), 255);
            due(i + 1 + " at place " + i, x.list(i, i + 1), 0);
        }
        for (int i = 0; i < 6; i++) {
            due("each place has its own", x.listed(i), i + 1);
        }
    }

    @Says(promise = 3, value = "BEYOND.")
    void listBeyond() {
        MangleKin x = new MangleKin();
        x.list(0, 7);
        x.list(5, 8);
        for (int v : new int[] {-1, 256, LEAST, MOST}) {
            beyond("set " + v, x.list(0, v));
        }
        for (int i : new int[] {-1, 6, LEAST, MOST}) {
            beyond("place " + i, x.list(i, 0));
        }
        due("place 0 is as it was", x.listed(0), 7);
        due("place 5 is as it was", x.listed(5), 8);
    }

    @Says(promise = 4, value = "The set that THE LIST tells for a place.")
    void listed() {
        MangleKin x = with(0);
        due("empty at first", x.listed(0), 0);
        x.list(0, 255);
        x.list(5, 254);
        due("all that it tells, of one alone", x.listed(0), 255);
        due("none of them there", x.listed(5), 254);
        due("nothing between", x.listed(4), 0);
    }

    @Says(promise = 4, value = "BEYOND.")
    void listedBeyond() {
        MangleKin x = new MangleKin();
        for (int i : new int[] {-1, 6, LEAST, MOST}) {
            beyond("listed(" + i + ")", x.listed(i));
        }
    }

    @Says(promise = 5, value = "A new one: the number.")
    void aNewOne() {
        MangleKin x = new MangleKin();
        int[] kinds = {0, 1, 2, 3, 4, 5, 6, 0};
        for (int p = 0; p < 8; p++) {
            due("person(" + kinds[p] + ")", x.person(kinds[p]), p);
            due("its kind", x.of(p, 0), kinds[p]);
            due("its worth", x.of(p, 1), 4);
            due("its KIN", x.of(p, 4), 0);
        }
    }

    @Says(promise = 5, value = "BEYOND.")
    void personBeyond() {
        MangleKin x = new MangleKin();
        for (int kind : new int[] {-1, 7, LEAST, MOST}) {
            beyond("person(" + kind + ")", x.person(kind));
        }
        due("nobody came", x.count(1), 0);
    }

    @Says(promise = 5, value = "FULL.")
    void personFull() {
        MangleKin x = eight(0);
        due("a 9th", x.person(0), FULL);
        due("a 10th", x.person(6), FULL);
        due("there are 8", x.count(1), 8);
        due("the 8th is as it was", x.of(7, 0), 0);
    }

    @Says(promise = 6, value = OF)
    void kinToAllOthersTogether() {
        MangleKin x = eight(0);
        due("none", x.of(3, 4), 0);
        for (int p = 0; p < 8; p++) {
            for (int q = 0; q < p; q++) {
                x.make(p, q, 999);
            }
        }
        due("all of 999", x.of(3, 4), 6993);
        due("nobody else", with(2).of(0, 4), 0);
    }

    @Says(promise = 6, value = OF)
    void toWhomItsKinIsGreatest() {
        due("there is no other one", with(2).of(0, 5), -1);
        MangleKin x = with(0, 0, 0, 0);
        due("all 0: the least other one", x.of(0, 5), 1);
        due("all 0: not itself", x.of(2, 5), 0);
        x.make(0, 3, 1);
        due("the last", x.of(0, 5), 3);
        x.make(0, 2, 1);
        due("two as great: the least", x.of(0, 5), 2);
        x.make(0, 3, 999);
        due("999", x.of(0, 5), 3);
        due("seen from there", x.of(3, 5), 0);
    }

    @Says(promise = 6, value = OF)
    void whatOfOne() {
        MangleKin x = atTurn(13, 1, 4);
        x.change(0, 1, 99);
        x.change(1, 1, 0);
        due("KIND", x.of(0, 0), 1);
        due("WORTH", x.of(0, 1), 99);
        due("BRINGS", x.of(0, 2), 49);
        due("FADES", x.of(0, 3), 0);
        due("KIND of the last", x.of(1, 0), 4);
        due("WORTH of the last", x.of(1, 1), 0);
        due("BRINGS of the last, at TURN 13", x.of(1, 2), 10);
        due("FADES of the last", x.of(1, 3), 1);
    }

    @Says(promise = 6, value = "BEYOND.")
    void ofBeyond() {
        MangleKin x = with(0, 0);
        for (int what : new int[] {-1, 6, LEAST, MOST}) {
            beyond("of(0, " + what + ")", x.of(0, what));
        }
        for (int what = 0; what <= 5; what++) {
            for (int p : new int[] {-1, 2, 7, 8, LEAST, MOST}) {
                beyond("of(" + p + ", " + what + ")", x.of(p, what));
            }
            beyond("nobody is there, " + what, new MangleKin().of(0, what));
        }
    }

    @Says(promise = 7, value = "KIND (what 0), WORTH (1) of one becomes v: what it was.")
    void changed() {
        MangleKin x = with(3, 0);
        int was = 3;
        for (int kind = 0; kind < 7; kind++) {
            due("KIND " + kind, x.change(0, 0, kind), was);
            due("it is so", x.of(0, 0), kind);
            was = kind;
        }
        due("WORTH 0", x.change(0, 1, 0), 4);
        due("it is 0", x.of(0, 1), 0);
        due("WORTH 99", x.change(0, 1, 99), 0);
        due("it is 99", x.of(0, 1), 99);
        due("KIND is as it was", x.of(0, 0), 6);
        due("the other one is as it was", x.of(1, 0) + x.of(1, 1), 4);
    }

    @Says(promise = 7, value = "BEYOND.")
    void changeBeyond() {
        MangleKin x = with(3, 3);
        for (int v : new int[] {-1, 7, 99, LEAST, MOST}) {
            beyond("KIND " + v, x.change(0, 0, v));
        }
        for (int v : new int[] {-1, 100, LEAST, MOST}) {
            beyond("WORTH " + v, x.change(0, 1, v));
        }
        for (int what : new int[] {-1, 2, LEAST, MOST}) {
            beyond("what " + what, x.change(0, what, 0));
        }
        for (int p : new int[] {-1, 2, 8, LEAST, MOST}) {
            beyond("KIND of " + p, x.change(p, 0, 0));
            beyond("WORTH of " + p, x.change(p, 1, 0));
        }
        for (int p = 0; p < 2; p++) {
            due("KIND is as it was", x.of(p, 0), 3);
            due("WORTH is as it was", x.of(p, 1), 4);
        }
        beyond("nobody is there", new MangleKin().change(0, 0, 0));
    }

    @Says(promise = 8, value = "KIN of two.")
    void kinOfTwo() {
        MangleKin x = eight(0);
        x.make(0, 7, 999);
        x.make(7, 6, 1);
        due("the first and the last", x.kin(0, 7), 999);
        due("the last and the first", x.kin(7, 0), 999);
        due("the last two", x.kin(6, 7), 1);
        due("two others", x.kin(0, 6), 0);
    }

    @Says(promise = 8, value = "BEYOND: also one and the same.")
    void kinBeyond() {
        MangleKin x = with(0, 0);
        beyond("one and the same", x.kin(0, 0));
        beyond("one and the same, the last", x.kin(1, 1));
        for (int p : new int[] {-1, 2, 8, LEAST, MOST}) {
            beyond("kin(0, " + p + ")", x.kin(0, p));
            beyond("kin(" + p + ", 1)", x.kin(p, 1));
            beyond("one and the same, and nobody", x.kin(p, p));
        }
    }

    @Says(promise = 9, value = "It becomes v (0 to 999): what it was.")
    void made() {
        MangleKin x = with(0, 0, 0);
        due("999", x.make(0, 1, 999), 0);
        due("1, the other way", x.make(1, 0, 1), 999);
        due("0", x.make(0, 1, 0), 1);
        due("as it is", x.make(0, 1, 0), 0);
        x.make(0, 1, 998);
        due("it is so", x.kin(1, 0), 998);
        due("others are as they were", x.kin(0, 2) + x.kin(1, 2), 0);
    }

    @Says(promise = 9, value = "BEYOND likewise.")
    void makeBeyond() {
        MangleKin x = with(0, 0);
        x.make(0, 1, 7);
        for (int v : new int[] {-1, 1000, LEAST, MOST}) {
            beyond("make(0, 1, " + v + ")", x.make(0, 1, v));
        }
        beyond("one and the same", x.make(0, 0, 0));
        for (int p : new int[] {-1, 2, 8, LEAST, MOST}) {
            beyond("make(0, " + p + ")", x.make(0, p, 0));
            beyond("make(" + p + ", 1)", x.make(p, 1, 0));
        }
        due("it is as it was", x.kin(0, 1), 7);
    }

    @Says(promise = 10, value = "One is ironed: its KIN to all others is 0: how much it was together.")
    void ironed() {
        MangleKin x = eight(0);
        for (int p = 0; p < 8; p++) {
            for (int q = 0; q < p; q++) {
                x.make(p, q, 999);
            }
        }
        due("the last", x.iron(7), 6993);
        due("again", x.iron(7), 0);
        due("the first, without the last", x.iron(0), 5994);
        due("theirs is 0", x.of(7, 4) + x.of(0, 4), 0);
        due("of the others it is as it was", x.of(3, 4), 4995);
        due("one alone", with(0).iron(0), 0);
    }

    @Says(promise = 10, value = "BEYOND.")
    void ironBeyond() {
        MangleKin x = with(0, 0);
        x.make(0, 1, 5);
        for (int p : new int[] {-1, 2, 8, LEAST, MOST}) {
            beyond("iron(" + p + ")", x.iron(p));
        }
        due("KIN is as it was", x.kin(0, 1), 5);
        beyond("nobody is there", new MangleKin().iron(0));
    }

    @Says(promise = 11, value = "n TURNS (1 to 60): KIN of all two together then.")
    void turnsGoBy() {
        MangleKin x = lords();
        x.list(0, 3);
        due("1", x.go(1), 1);
        due("TURN", x.now(0), 1);
        due("60", x.go(60), 11);
        due("TURN", x.now(0), 61);
        due("nobody is there", new MangleKin().go(60), 0);
        due("one alone", with(0).go(1), 0);
    }

    @Says(promise = 11, value = "n TURNS (1 to 60): KIN of all two together then.")
    void togetherAtMost() {
        MangleKin x = eight(1);
        for (int i = 0; i < 6; i++) {
            x.list(i, 255);
        }
        for (int p = 0; p < 8; p++) {
            x.change(p, 1, 99);
        }
        due("28 times 52", x.go(1), 1456);
        due("28 times 988", x.go(18), 27664);
        due("28 times 999", x.go(1), 27972);
        due("no more", x.go(60), 27972);
    }

    @Says(promise = 11, value = "BEYOND.")
    void goBeyond() {
        MangleKin x = with(0, 0);
        for (int n : new int[] {0, -1, 61, LEAST, MOST}) {
            beyond("go(" + n + ")", x.go(n));
        }
        due("no TURN went by", x.now(0), 0);
    }

    @Says(promise = 11, value = "STATE: TURN would be above 99999.")
    void goState() {
        MangleKin x = atTurn(99939, 0);
        x.image();
        due("99999", x.go(60), 0);
        due("TURN", x.now(0), 99999);
        due("100000", x.go(1), STATE);
        x.undo();
        x.go(1);
        due("100000 by 60", x.go(60), STATE);
        due("no TURN went by", x.now(0), 99940);
        due("59 go", x.go(59), 0);
        due("STATE is counted", x.status(4), 2);
    }

    @Says(promise = 12, value = NOW)
    void turnAndKin() {
        MangleKin x = eight(0);
        due("TURN at first", x.now(0), 0);
        due("KIN at first", x.now(1), 0);
        x.go(60);
        due("TURN", x.now(0), 60);
        for (int p = 0; p < 8; p++) {
            for (int q = 0; q < p; q++) {
                x.make(p, q, 999);
            }
        }
        due("KIN of all two, each once", x.now(1), 27972);
        due("of nobody", new MangleKin().now(1), 0);
        due("of one alone", with(3).now(1), 0);
    }

    @Says(promise = 12, value = NOW)
    void whoGoesInNextAndIsThere() {
        MangleKin x = with(0, 0, 0);
        x.list(0, 255);
        due("those that are there", x.now(2), 7);
        x.list(0, 248);
        due("none of them is there", x.now(2), 0);
        x.list(0, 1);
        x.go(1);
        x.list(1, 250);
        due("and who is KEPT", x.now(2), 3);
        x.go(5);
        x.list(0, 0);
        due("who is KEPT alone", x.now(2), 2);
        due("nobody is there", new MangleKin().now(2), 0);
    }

    @Says(promise = 12, value = NOW)
    void whoIsKept() {
        MangleKin x = with(0, 0);
        due("nobody", x.now(3), -1);
        x.list(0, 1);
        x.go(1);
        due("0", x.now(3), 0);
        x.list(1, 2);
        x.go(1);
        due("1", x.now(3), 1);
    }

    @Says(promise = 12, value = NOW)
    void theTwoWhoseKinIsGreatest() {
        due("nobody is there", new MangleKin().now(5), -1);
        due("one alone", with(0).now(5), -1);
        due("two", with(0, 0).now(5), 1);
        MangleKin x = eight(0);
        due("all 0: the least", x.now(5), 1);
        x.make(7, 6, 1);
        due("the last two", x.now(5), 55);
        x.make(3, 0, 1);
        due("of several the least", x.now(5), 3);
        x.make(1, 2, 999);
        due("the greatest", x.now(5), 10);
        x.make(0, 7, 999);
        due("of several the least, not the lesser other one", x.now(5), 7);
    }

    @Says(promise = 12, value = NOW)
    void dampNow() {
        MangleKin x = new MangleKin();
        x.damp(0);
        due("0", x.now(4), 0);
        x.damp(9);
        due("9", x.now(4), 9);
    }

    @Says(promise = 12, value = "BEYOND.")
    void nowBeyond() {
        MangleKin x = with(0, 0);
        for (int what : new int[] {-1, 6, LEAST, MOST}) {
            beyond("now(" + what + ")", x.now(what));
        }
    }
}
