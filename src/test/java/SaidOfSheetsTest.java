/** What term 3 says of spots and sheets, and promises 35 to 41, sentence by sentence. */
public final class SaidOfSheetsTest extends Sentences {
    private static final String SPOTS = "SPOTS 0 to 9 hold one of PEOPLE or nothing (at first).";
    private static final String SHEETS = "SHEETS 0 to 3: rows of at most 40 numbers of 8, 16 or 32 bits (told with "
        + "their sign: of 8 bits 255 is -1), or MISSING (at first).";
    private static final String SHEET = "A sheet has n numbers, all 0, of 8, 16 or 32 bits; bits 0: it is MISSING: n "
        + "(0 if it is MISSING).";
    private static final String COPY = "n numbers of a sheet from one on come to another one from one on (as they all "
        + "were): n.";
    private static final String LOAD = "Numbers of a sheet, from its begin on, become sets of THE LIST, places 0, 1, "
        + "..: how many came.";
    private static final String LOAD_ENDS = "It ends at the first that isn't 0 to 255, or for which there is no place.";
    private static final String JUDGE = "THE READER: numbers of a sheet are KIN of one to PEOPLE 0, 1, .. (0 to "
        + "itself): 0 if so; else 1 and the place of the first that isn't so.";
    private static final int[] NO_SHEETS = {-1, 4, LEAST, MOST};

    public static void main(String[] args) throws Exception { new SaidOfSheetsTest().askAll(); }

    private void dueList(String call, MangleKin x, int... sets) {
        for (int i = 0; i < sets.length; i++) {
            due(call + ", place " + i, x.listed(i), sets[i]);
        }
    }

    private static int[] upTo(int n) {
        int[] numbers = new int[n];
        for (int i = 0; i < n; i++) {
            numbers[i] = i + 1;
        }
        return numbers;
    }

    // ---- 3: spots and sheets at first

    @Says(promise = 0, value = SPOTS)
    void spots0To9() {
        MangleKin x = eight(0);
        for (int spot = 0; spot < 10; spot++) {
            due("nothing at first, spot " + spot, x.as(spot, 0), MISSING);
        }
        for (int spot = 0; spot < 10; spot++) {
            due("spot " + spot, x.hold(spot, 7 - spot % 8), 1);
            due("that many hold", x.count(7), spot + 1);
        }
        for (int spot = 0; spot < 10; spot++) {
            due("each holds its own, spot " + spot, x.as(spot, 0), 7 - spot % 8);
        }
        beyond("spot 10", x.hold(10, 0));
        beyond("spot -1", x.hold(-1, 0));
    }

    @Says(promise = 0, value = SHEETS)
    void sheets0To3() {
        MangleKin x = new MangleKin();
        for (int s = 0; s < 4; s++) {
            due("MISSING at first, sheet " + s, x.load(s), MISSING);
        }
        for (int s = 0; s < 4; s++) {
            due("sheet " + s, x.sheet(s, 8, 1), 1);
            due("its number", x.write(s, 0, s + 10), 1);
        }
        for (int s = 0; s < 4; s++) {
            due("there, sheet " + s, x.load(s), 1);
            due("each has its own", x.listed(0), s + 10);
        }
        beyond("sheet 4", x.sheet(4, 8, 1));
        beyond("sheet -1", x.sheet(-1, 8, 1));
    }

    @Says(promise = 0, value = SHEETS)
    void atMost40Numbers() {
        for (int bits = 8; bits <= 32; bits *= 2) {
            MangleKin x = new MangleKin();
            due("40 of " + bits + " bits", x.sheet(0, bits, 40), 40);
            due("the last", x.write(0, 39, 1), 1);
            beyond("41 of " + bits + " bits", x.sheet(0, bits, 41));
        }
    }

    /** Whether a number written with so many bits is -1 then (any), 0 (KIN of strangers), or neither. */
    private void written(int bits, int v, boolean any, boolean zero) {
        MangleKin x = lords();
        fill(x, 0, bits, v);
        due(v + " of " + bits + " bits is any or 0", x.fits(0, 0, 0, 1), any || zero ? 256 : 0);
        due(v + " of " + bits + " bits is 0 to 255", x.load(0), zero ? 1 : 0);
    }

    @Says(promise = 0, value = SHEETS)
    void toldWithTheirSign() {
        written(8, 255, true, false);
        written(8, -1, true, false);
        written(8, 128, false, false);
        written(8, -128, false, false);
        written(8, 254, false, false);
        written(8, 256, false, true);
        written(8, MOST, true, false);
        written(8, LEAST, false, true);
        written(16, 65535, true, false);
        written(16, 32768, false, false);
        written(16, 65534, false, false);
        written(16, 65536, false, true);
        written(16, MOST, true, false);
        written(16, LEAST, false, true);
        written(32, -1, true, false);
        written(32, 65535, false, false);
        written(32, 65536, false, false);
        written(32, MOST, false, false);
        written(32, LEAST, false, false);
        written(32, 0, false, true);
    }

    // ---- 35, 36: spots

    @Says(promise = 35, value = "A SPOT holds one of PEOPLE, or nothing (-1): 1.")
    void hold() {
        MangleKin x = eight(0);
        due("the first", x.hold(0, 0), 1);
        due("the last", x.hold(9, 7), 1);
        due("one in two spots", x.hold(5, 7), 1);
        due("three hold", x.count(7), 3);
        due("another one in its stead", x.hold(9, 3), 1);
        due("it is that one", x.as(9, 0), 3);
        due("three hold still", x.count(7), 3);
        due("nothing", x.hold(9, -1), 1);
        due("nothing, where nothing was", x.hold(1, -1), 1);
        due("two hold", x.count(7), 2);
        due("the other is as it was", x.as(5, 0), 7);
        due("nothing, where nobody is there", new MangleKin().hold(9, -1), 1);
    }

    @Says(promise = 35, value = "BEYOND.")
    void holdBeyond() {
        MangleKin x = with(0, 0);
        x.hold(0, 1);
        for (int spot : new int[] {-1, 10, LEAST, MOST}) {
            beyond("spot " + spot, x.hold(spot, 0));
            beyond("nothing in spot " + spot, x.hold(spot, -1));
        }
        for (int p : new int[] {-2, 2, 8, LEAST, MOST}) {
            beyond("person " + p, x.hold(0, p));
        }
        due("it is as it was", x.as(0, 0), 1);
        due("one holds", x.count(7), 1);
        beyond("nobody is there", new MangleKin().hold(0, 0));
    }

    @Says(promise = 36, value = "What a SPOT holds as one of a kind (0 to 6): the number.")
    void asOneOfAKind() {
        MangleKin x = with(0, 1, 2, 3, 4, 5, 6, 0);
        for (int kind = 0; kind < 7; kind++) {
            x.hold(kind, kind);
            due("as its own kind, " + kind, x.as(kind, kind), kind);
            due("as a person, " + kind, x.as(kind, 0), kind);
        }
        x.hold(9, 7);
        due("the last spot, the last one", x.as(9, 0), 7);
        due("an heir as a lord", x.as(6, 1), 6);
        due("a widow as a boy", x.as(3, 2), 3);
        due("a sunday as a boy", x.as(4, 2), 4);
        due("a sunday as a widow", x.as(4, 3), 4);
    }

    @Says(promise = 36, value = "BEYOND.")
    void asBeyond() {
        MangleKin x = with(0);
        x.hold(0, 0);
        for (int spot : new int[] {-1, 10, LEAST, MOST}) {
            beyond("spot " + spot, x.as(spot, 0));
        }
        for (int kind : new int[] {-1, 7, LEAST, MOST}) {
            beyond("kind " + kind, x.as(0, kind));
        }
    }

    @Says(promise = 36, value = "MISSING: it holds nothing.")
    void asMissing() {
        MangleKin x = with(0);
        due("at first", x.as(0, 0), MISSING);
        x.hold(0, 0);
        due("no longer", x.as(0, 0), 0);
        due("the last spot", x.as(9, 6), MISSING);
        x.hold(0, -1);
        due("again", x.as(0, 0), MISSING);
    }

    @Says(promise = 36, value = "KIND: it isn't of that kind, nor of one under it.")
    void asKind() {
        MangleKin x = with(0, 1, 2, 3, 4, 5, 6);
        int[][] no = {{1, 2, 3, 4, 5, 6}, {2, 3, 4, 5, 6}, {1, 3, 4, 5, 6}, {1, 4, 5, 6}, {1, 5, 6}, {1, 2, 3, 4, 6},
            {2, 3, 4, 5}};
        for (int kind = 0; kind < 7; kind++) {
            x.hold(0, kind);
            for (int other : no[kind]) {
                due(kind + " as " + other, x.as(0, other), KIND);
            }
        }
        x.change(6, 0, 4);
        due("an heir who is a sunday now as a lord", x.as(0, 1), KIND);
        due("as a boy", x.as(0, 2), 6);
    }

    // ---- 37, 38: sheet, write

    @Says(promise = 37, value = SHEET)
    void aSheetHasNumbers() {
        MangleKin x = new MangleKin();
        for (int bits = 8; bits <= 32; bits *= 2) {
            due("none of " + bits + " bits", x.sheet(0, bits, 0), 0);
            due("it isn't MISSING", x.load(0), 0);
            beyond("it has no number", x.write(0, 0, 1));
            due("1 of " + bits + " bits", x.sheet(0, bits, 1), 1);
            due("it has number 0", x.write(0, 0, 1), 1);
            beyond("it has no number 1", x.write(0, 1, 1));
            due("40 of " + bits + " bits", x.sheet(0, bits, 40), 40);
            due("it has number 39", x.write(0, 39, 1), 1);
            beyond("it has no number 40", x.write(0, 40, 1));
        }
    }

    @Says(promise = 37, value = SHEET)
    void all0() {
        MangleKin x = eight(0);
        fill(x, 0, 32, upTo(40));
        due("told anew", x.sheet(0, 32, 40), 40);
        due("all 0 to eight people", x.judge(0, 3), 9);
        due("all 0", x.copy(0, 34, 0, 0, 6), 6);
        x.list(5, 9);
        due("also the last", x.load(0), 6);
        dueList("all 0", x, 0, 0, 0, 0, 0, 0);
        fill(x, 0, 8, upTo(40));
        x.sheet(0, 8, 1);
        x.sheet(0, 8, 2);
        x.load(0);
        due("also what was cut off between", x.listed(1), 0);
    }

    @Says(promise = 37, value = SHEET)
    void bits0IsMissing() {
        MangleKin x = new MangleKin();
        fill(x, 0, 8, 5, 6);
        due("n 0", x.sheet(0, 0, 0), 0);
        due("it is MISSING", x.load(0), MISSING);
        due("MISSING still, n 40", x.sheet(0, 0, 40), 0);
        due("it is MISSING", x.load(0), MISSING);
        due("back", x.sheet(0, 8, 2), 2);
        x.load(0);
        due("all 0", x.listed(0) + x.listed(1), 0);
        due("MISSING at once, n 40", x.sheet(0, 0, 40), 0);
        due("no number", x.write(0, 0, 1), MISSING);
        due("the others are as they were", x.sheet(1, 16, 3) + x.load(1), 6);
    }

    @Says(promise = 37, value = "BEYOND: no such sheet, other bits.")
    void sheetBeyond() {
        MangleKin x = new MangleKin();
        fill(x, 0, 8, 5);
        for (int s : NO_SHEETS) {
            beyond("sheet " + s, x.sheet(s, 8, 1));
            beyond("sheet " + s + ", bits 0", x.sheet(s, 0, 0));
        }
        for (int bits : new int[] {-1, 1, 7, 9, 15, 17, 24, 31, 33, 64, -8, -16, -32, LEAST, MOST}) {
            beyond(bits + " bits", x.sheet(0, bits, 1));
        }
        due("it is as it was", x.load(0) + x.listed(0), 6);
    }

    @Says(promise = 37, value = "SIZE: n is below 0 (also with bits 0).")
    void sheetSize() {
        MangleKin x = new MangleKin();
        fill(x, 0, 8, 5);
        for (int bits : new int[] {0, 8, 16, 32}) {
            due("n -1, " + bits + " bits", x.sheet(0, bits, -1), SIZE);
            due("the least n, " + bits + " bits", x.sheet(0, bits, LEAST), SIZE);
        }
        due("SIZE is counted", x.status(6), 8);
        due("it is as it was", x.load(0) + x.listed(0), 6);
    }

    @Says(promise = 37, value = "BEYOND: n is above 40 (also with bits 0).")
    void sheetAbove40() {
        MangleKin x = new MangleKin();
        fill(x, 0, 8, 5);
        for (int bits : new int[] {0, 8, 16, 32}) {
            beyond("n 41, " + bits + " bits", x.sheet(0, bits, 41));
            beyond("the most n, " + bits + " bits", x.sheet(0, bits, MOST));
        }
        due("it is as it was", x.load(0) + x.listed(0), 6);
    }

    /** A number written with so many bits is so much then. */
    private void becomes(int bits, int v, int want) {
        MangleKin x = with(0, 0);
        x.make(0, 1, want);
        x.sheet(0, bits, 2);
        due("write " + v, x.write(0, 1, v), 1);
        due(v + " of " + bits + " bits is " + want, x.judge(0, 0), 0);
    }

    @Says(promise = 38, value = "Number i of a sheet becomes v (its lowest bits): 1.")
    void itsLowestBits() {
        becomes(8, 127, 127);
        becomes(8, 256, 0);
        becomes(8, 300, 44);
        becomes(8, -129, 127);
        becomes(8, 0x7FFFFF01, 1);
        becomes(16, 999, 999);
        becomes(16, 65536, 0);
        becomes(16, 65536 + 999, 999);
        becomes(16, -65536 + 999, 999);
        becomes(16, LEAST, 0);
        becomes(32, 999, 999);
    }

    @Says(promise = 38, value = "Number i of a sheet becomes v (its lowest bits): 1.")
    void numberI() {
        MangleKin x = new MangleKin();
        x.sheet(3, 8, 40);
        due("the first", x.write(3, 0, 7), 1);
        due("the second", x.write(3, 1, 8), 1);
        due("the last", x.write(3, 39, 9), 1);
        x.copy(3, 39, 3, 5, 1);
        due("they come", x.load(3), 6);
        dueList("each has its own", x, 7, 8, 0, 0, 0, 9);
        due("anew", x.write(3, 0, 1), 1);
        x.load(3);
        dueList("only that", x, 1, 8);
    }

    @Says(promise = 38, value = "BEYOND: no such sheet.")
    void writeNoSuchSheet() {
        MangleKin x = new MangleKin();
        for (int s : NO_SHEETS) {
            beyond("sheet " + s, x.write(s, 0, 0));
        }
    }

    @Says(promise = 38, value = "MISSING.")
    void writeMissing() {
        MangleKin x = new MangleKin();
        for (int s = 0; s < 4; s++) {
            due("sheet " + s, x.write(s, 0, 0), MISSING);
        }
    }

    @Says(promise = 38, value = "BEYOND: no such number.")
    void writeNoSuchNumber() {
        MangleKin x = new MangleKin();
        x.sheet(0, 8, 3);
        x.sheet(1, 8, 0);
        for (int i : new int[] {-1, 3, 39, 40, LEAST, MOST}) {
            beyond("number " + i + " of 3", x.write(0, i, 1));
        }
        beyond("number 0 of none", x.write(1, 0, 1));
        x.load(0);
        dueList("they are as they were", x, 0, 0, 0);
    }

    // ---- 39: copy

    @Says(promise = 39, value = COPY)
    void copied() {
        MangleKin x = new MangleKin();
        fill(x, 0, 16, 1, 2, 3, 4, 5, 6);
        x.sheet(3, 16, 6);
        due("the last one to the first", x.copy(0, 5, 3, 0, 1), 1);
        due("the first one to the last", x.copy(0, 0, 3, 5, 1), 1);
        x.load(3);
        dueList("no others", x, 6, 0, 0, 0, 0, 1);
        due("all", x.copy(0, 0, 3, 0, 6), 6);
        x.load(3);
        dueList("all came", x, 1, 2, 3, 4, 5, 6);
        x.load(0);
        dueList("they stay there, too", x, 1, 2, 3, 4, 5, 6);
        due("none", x.copy(0, 0, 3, 0, 0), 0);
        due("none, at both ends", x.copy(0, 6, 3, 6, 0), 0);
        x.sheet(1, 16, 0);
        due("none of none", x.copy(1, 0, 1, 0, 0), 0);
        x.sheet(1, 8, 40);
        x.sheet(2, 8, 40);
        x.write(1, 39, 7);
        due("40", x.copy(1, 0, 2, 0, 40), 40);
        x.copy(2, 39, 2, 0, 1);
        x.load(2);
        due("the last of 40 came", x.listed(0), 7);
    }

    @Says(promise = 39, value = COPY)
    void asTheyAllWere() {
        MangleKin x = new MangleKin();
        fill(x, 0, 8, 1, 2, 3, 4, 5, 6);
        due("one on", x.copy(0, 0, 0, 1, 5), 5);
        x.load(0);
        dueList("one on", x, 1, 1, 2, 3, 4, 5);
        due("one back", x.copy(0, 1, 0, 0, 5), 5);
        x.load(0);
        dueList("one back", x, 1, 2, 3, 4, 5, 5);
        due("onto themselves", x.copy(0, 0, 0, 0, 6), 6);
        x.load(0);
        dueList("onto themselves", x, 1, 2, 3, 4, 5, 5);
    }

    @Says(promise = 39, value = COPY)
    void withTheirSign() {
        MangleKin x = with(0, 0);
        fill(x, 0, 8, 255, 128);
        x.sheet(1, 8, 2);
        due("two", x.copy(0, 0, 1, 0, 2), 2);
        due("255 and 128 stay below 0", x.load(1), 0);
        x.write(1, 1, 0);
        due("255 stays any", x.fits(1, 5, 0, 1), 256);
    }

    @Says(promise = 39, value = "BEYOND: no such sheet (either).")
    void copyNoSuchSheet() {
        MangleKin x = new MangleKin();
        x.sheet(0, 8, 1);
        for (int s : NO_SHEETS) {
            beyond("from sheet " + s, x.copy(s, 0, 0, 0, 0));
            beyond("to sheet " + s, x.copy(0, 0, s, 0, 0));
            beyond("both " + s, x.copy(s, 0, s, 0, 0));
        }
    }

    @Says(promise = 39, value = "MISSING: one is.")
    void copyMissing() {
        MangleKin x = new MangleKin();
        x.sheet(0, 8, 1);
        due("from", x.copy(1, 0, 0, 0, 0), MISSING);
        due("to", x.copy(0, 0, 1, 0, 0), MISSING);
        due("both", x.copy(1, 0, 2, 0, 0), MISSING);
        due("one and the same", x.copy(3, 0, 3, 0, 0), MISSING);
    }

    @Says(promise = 39, value = "KIND: they are not of as many bits.")
    void copyKind() {
        MangleKin x = new MangleKin();
        int[] bits = {8, 16, 32};
        for (int s = 0; s < 3; s++) {
            x.sheet(s, bits[s], 1);
        }
        for (int s = 0; s < 3; s++) {
            for (int t = 0; t < 3; t++) {
                due("from " + bits[s] + " to " + bits[t] + " bits", x.copy(s, 0, t, 0, 1), s == t ? 1 : KIND);
                due("none, likewise", x.copy(s, 0, t, 0, 0), s == t ? 0 : KIND);
            }
        }
    }

    @Says(promise = 39, value = "BEYOND: one has not so many, or from, to or n is below 0.")
    void copyBeyond() {
        MangleKin x = new MangleKin();
        fill(x, 0, 16, 1, 2, 3);
        fill(x, 1, 16, 4, 5);
        fill(x, 2, 16, 6, 7, 8, 9);
        beyond("from has 3, not 4", x.copy(0, 0, 2, 0, 4));
        beyond("from has 2 from 1 on, not 3", x.copy(0, 1, 2, 0, 3));
        beyond("from has none from 3 on", x.copy(0, 3, 2, 0, 1));
        beyond("to has 2, not 3", x.copy(0, 0, 1, 0, 3));
        beyond("to has 1 from 1 on, not 2", x.copy(0, 0, 1, 1, 2));
        beyond("to has none from 2 on", x.copy(0, 0, 1, 2, 1));
        for (int low : new int[] {-1, LEAST}) {
            beyond("from " + low, x.copy(0, low, 1, 0, 1));
            beyond("to " + low, x.copy(0, 0, 1, low, 1));
            beyond("n " + low, x.copy(0, 0, 1, 0, low));
            beyond("from " + low + ", none", x.copy(0, low, 1, 0, 0));
            beyond("to " + low + ", none", x.copy(0, 0, 1, low, 0));
        }
        beyond("the most from", x.copy(0, MOST, 1, 0, 1));
        beyond("the most to", x.copy(0, 0, 1, MOST, 1));
        beyond("the most n", x.copy(0, 0, 1, 0, MOST));
        beyond("1 from and the most n wrap around", x.copy(0, 1, 1, 0, MOST));
        beyond("1 to and the most n wrap around", x.copy(0, 0, 1, 1, MOST));
        beyond("the most from and n wrap around", x.copy(0, MOST, 1, 0, MOST));
        beyond("the most to and n wrap around", x.copy(0, 0, 1, MOST, MOST));
        x.load(1);
        dueList("they are as they were", x, 4, 5);
    }

    // ---- 40, 41: load, judge

    @Says(promise = 40, value = LOAD)
    void loaded() {
        MangleKin x = new MangleKin();
        for (int i = 0; i < 6; i++) {
            x.list(i, 99);
        }
        x.sheet(0, 8, 0);
        due("of none", x.load(0), 0);
        fill(x, 0, 8, 0);
        due("one, an empty set", x.load(0), 1);
        dueList("the first place", x, 0, 99, 99, 99, 99, 99);
        fill(x, 3, 16, 255, 1, 2, 3, 4);
        due("five", x.load(3), 5);
        dueList("five places", x, 255, 1, 2, 3, 4, 99);
        fill(x, 3, 32, 6, 5, 4, 3, 2, 255);
        due("six", x.load(3), 6);
        dueList("all places", x, 6, 5, 4, 3, 2, 255);
    }

    @Says(promise = 40, value = LOAD_ENDS)
    void loadEnds() {
        int[] bad = {256, -1, 32767, -32768, 999};
        for (int v : bad) {
            MangleKin x = new MangleKin();
            x.list(1, 99);
            x.list(2, 99);
            fill(x, 0, 16, 255, v, 7);
            due("at " + v, x.load(0), 1);
            dueList("what comes behind " + v + " doesn't count", x, 255, 99, 99);
            x.write(0, 0, v);
            due("at once at " + v, x.load(0), 0);
            due("nothing came", x.listed(0), 255);
        }
        MangleKin y = new MangleKin();
        fill(y, 0, 8, 1, 2, 3, 4, 5, 128);
        due("at the sixth", y.load(0), 5);
        due("place 5 is as it was", y.listed(5), 0);
    }

    @Says(promise = 40, value = LOAD_ENDS)
    void forWhichThereIsNoPlace() {
        MangleKin x = new MangleKin();
        fill(x, 0, 8, upTo(7));
        due("seven", x.load(0), 6);
        dueList("six of seven", x, 1, 2, 3, 4, 5, 6);
        fill(x, 0, 8, upTo(40));
        due("forty", x.load(0), 6);
        dueList("six of forty", x, 1, 2, 3, 4, 5, 6);
    }

    @Says(promise = 40, value = "BEYOND: no such sheet.")
    void loadNoSuchSheet() {
        MangleKin x = new MangleKin();
        for (int s : NO_SHEETS) {
            beyond("sheet " + s, x.load(s));
        }
    }

    @Says(promise = 40, value = "MISSING.")
    void loadMissing() {
        MangleKin x = new MangleKin();
        x.list(0, 5);
        for (int s = 0; s < 4; s++) {
            due("sheet " + s, x.load(s), MISSING);
        }
        due("THE LIST is as it was", x.listed(0), 5);
    }

    @Says(promise = 41, value = JUDGE)
    void judgedSo() {
        MangleKin x = eight(0);
        x.make(7, 0, 999);
        x.make(7, 6, 1);
        fill(x, 0, 16, 999, 0, 0, 0, 0, 0, 1, 0);
        due("all so, of the last", x.judge(0, 7), 0);
        fill(x, 1, 16, 0, 0, 0, 0, 0, 0, 0, 999);
        due("all so, of the first", x.judge(1, 0), 0);
        fill(x, 2, 16, 999);
        due("fewer numbers than PEOPLE", x.judge(2, 7), 0);
        x.sheet(2, 16, 0);
        due("no numbers", x.judge(2, 7), 0);
        MangleKin y = with(0);
        fill(y, 3, 8, 0);
        due("one alone, to itself", y.judge(3, 0), 0);
    }

    @Says(promise = 41, value = JUDGE)
    void theFirstThatIsntSo() {
        MangleKin x = eight(0);
        x.make(7, 0, 999);
        x.make(7, 6, 1);
        for (int i = 0; i < 8; i++) {
            fill(x, 0, 16, 999, 0, 0, 0, 0, 0, 1, 0);
            x.write(0, i, 500);
            due("number " + i, x.judge(0, 7), 1 + i);
        }
        fill(x, 0, 16, 999, 0, 1, 0, 0, 0, 0, 5);
        due("the first of three", x.judge(0, 7), 3);
        fill(x, 0, 16, 999, -1);
        due("-1 isn't any", x.judge(0, 7), 2);
        fill(x, 0, 16, 999, 0, 0, 0, 0, 0, 1, 0, 0);
        due("a ninth number is KIN to nobody", x.judge(0, 7), 9);
        MangleKin y = with(0);
        fill(y, 0, 8, 1);
        due("0 to itself", y.judge(0, 0), 1);
        y.sheet(0, 8, 40);
        due("nobody is there behind", y.judge(0, 0), 2);
    }

    @Says(promise = 41, value = "BEYOND: no such sheet.")
    void judgeNoSuchSheet() {
        MangleKin x = with(0);
        for (int s : NO_SHEETS) {
            beyond("sheet " + s, x.judge(s, 0));
        }
    }

    @Says(promise = 41, value = "MISSING.")
    void judgeMissing() {
        MangleKin x = with(0);
        for (int s = 0; s < 4; s++) {
            due("sheet " + s, x.judge(s, 0), MISSING);
        }
    }

    @Says(promise = 41, value = "BEYOND: no such one.")
    void judgeNoSuchOne() {
        MangleKin x = with(0, 0);
        x.sheet(0, 8, 0);
        for (int p : new int[] {-1, 2, 8, LEAST, MOST}) {
            beyond("judge(0, " + p + ")", x.judge(0, p));
        }
        due("the last is one", x.judge(0, 1), 0);
    }
}
