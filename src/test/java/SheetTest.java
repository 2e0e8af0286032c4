/** Promises 35 to 41: spots, sheets. */
public final class SheetTest extends Promises {
    public static void main(String[] args) {
        SheetTest t = new SheetTest();
        t.hold();
        t.as();
        t.kindsUnderOneAnother();
        t.sheet();
        t.write();
        t.copy();
        t.copyFindings();
        t.load();
        t.judge();
        t.end();
    }

    private void hold() {
        MangleKin x = with(0, 2);
        due("35: hold", x.hold(0, 1), 1);
        due("35: the last spot", x.hold(9, 0), 1);
        due("35: two hold", x.count(7), 2);
        due("35: one in two spots", x.hold(5, 1), 1);
        due("35: three hold", x.count(7), 3);
        due("35: nothing", x.hold(0, -1), 1);
        due("35: nothing again", x.hold(0, -1), 1);
        beyond("35: spot 10", x.hold(10, 0));
        beyond("35: spot -1", x.hold(-1, 0));
        beyond("35: nobody", x.hold(1, 2));
        beyond("35: below nothing", x.hold(9, -2));
        due("35: two are left", x.count(7), 2);
        due("35: spot 9", x.as(9, 0), 0);
    }

    private void as() {
        MangleKin x = with(0, 3);
        x.hold(2, 1);
        due("36: as a widow", x.as(2, 3), 1);
        due("36: as a boy", x.as(2, 2), 1);
        due("36: as a person", x.as(2, 0), 1);
        due("36: as a sunday", x.as(2, 4), KIND);
        due("36: as a lord", x.as(2, 1), KIND);
        due("36: KIND is counted", x.status(2), 2);
        due("36: nothing is held", x.as(3, 0), MISSING);
        beyond("36: kind 7", x.as(2, 7));
        beyond("36: kind -1", x.as(2, -1));
        beyond("36: spot 10", x.as(10, 0));
        beyond("36: spot -1", x.as(-1, 0));
        due("36: BEYOND is asked first", x.as(3, 7), BEYOND);
        x.change(1, 0, 6);
        due("36: by the kind it has now", x.as(2, 1), 1);
        due("36: no boy any more", x.as(2, 2), KIND);
        x.hold(2, -1);
        due("36: nothing any more", x.as(2, 1), MISSING);
    }

    private void kindsUnderOneAnother() {
        MangleKin x = with(0, 1, 2, 3, 4, 5, 6);
        // For each kind the kinds as which it may be taken, as bits.
        int[] taken = {1, 3, 5, 13, 29, 33, 67};
        for (int kind = 0; kind < 7; kind++) {
            x.hold(kind, kind);
            for (int as = 0; as < 7; as++) {
                int want = (taken[kind] >> as & 1) == 1 ? kind : KIND;
                due("36: kind " + kind + " as " + as, x.as(kind, as), want);
            }
        }
    }

    private void sheet() {
        MangleKin x = new MangleKin();
        due("37: 8 bits", x.sheet(0, 8, 40), 40);
        due("37: 16 bits", x.sheet(1, 16, 1), 1);
        due("37: 32 bits, no numbers", x.sheet(3, 32, 0), 0);
        due("37: there it is", x.load(3), 0);
        due("37: missing", x.sheet(0, 0, 40), 0);
        due("37: it is missing", x.load(0), MISSING);
        due("37: missing still", x.sheet(0, 0, 0), 0);
        beyond("37: sheet 4", x.sheet(4, 8, 1));
        beyond("37: sheet -1", x.sheet(-1, 8, 1));
        beyond("37: 7 bits", x.sheet(1, 7, 1));
        beyond("37: 64 bits", x.sheet(1, 64, 1));
        beyond("37: -8 bits", x.sheet(1, -8, 1));
        due("37: other bits come ahead of size", x.sheet(1, 7, -1), BEYOND);
        due("37: no sheet comes ahead of size", x.sheet(4, 8, -1), BEYOND);
        due("37: below 0", x.sheet(1, 16, -1), SIZE);
        due("37: below 0 with bits 0", x.sheet(1, 0, -1), SIZE);
        due("37: the least", x.sheet(1, 32, Integer.MIN_VALUE), SIZE);
        beyond("37: 41", x.sheet(1, 16, 41));
        beyond("37: 41 with bits 0", x.sheet(1, 0, 41));
        due("37: SIZE is counted", x.status(6), 3);
        due("37: the sheet is left", x.write(1, 0, 5), 1);
        due("37: with one number", x.write(1, 1, 5), BEYOND);
        due("37: told anew", x.sheet(1, 16, 2), 2);
        due("37: all are 0", x.load(1), 2);
        due("37: also the first", x.listed(0), 0);
        x.list(0, 9);
        due("37: of no numbers", x.sheet(1, 16, 0), 0);
        due("37: nothing comes", x.load(1), 0);
        due("37: the list is left", x.listed(0), 9);
    }

    private void write() {
        MangleKin x = with(0, 0);
        x.sheet(0, 8, 3);
        due("38: write", x.write(0, 0, 127), 1);
        due("38: the last", x.write(0, 2, 1), 1);
        beyond("38: number 3", x.write(0, 3, 1));
        beyond("38: number -1", x.write(0, -1, 1));
        beyond("38: sheet 4", x.write(4, 0, 1));
        beyond("38: sheet -1", x.write(-1, 0, 1));
        due("38: missing", x.write(1, 0, 1), MISSING);
        due("38: MISSING comes ahead of no number", x.write(1, 99, 1), MISSING);
        due("38: they come", x.load(0), 3);
        due("38: 127", x.listed(0), 127);
        x.write(0, 0, 128);
        due("38: of 8 bits 128 is below 0", x.load(0), 0);
        x.write(0, 0, 256 + 5);
        x.load(0);
        due("38: the lowest 8 bits", x.listed(0), 5);
        x.sheet(0, 16, 1);
        x.write(0, 0, 65536 * 3 + 200);
        x.load(0);
        due("38: the lowest 16 bits", x.listed(0), 200);
        x.write(0, 0, 32768);
        due("38: of 16 bits 32768 is below 0", x.load(0), 0);
        x.sheet(0, 32, 1);
        x.write(0, 0, 65536 + 200);
        due("38: all 32 bits", x.load(0), 0);
        x.write(0, 0, 255);
        due("38: 255", x.load(0), 1);
    }

    private static void dueList(SheetTest t, MangleKin x, String call, int... sets) {
        for (int i = 0; i < sets.length; i++) {
            t.due(call + ", " + i, x.listed(i), sets[i]);
        }
    }

    private void copy() {
        MangleKin x = new MangleKin();
        fill(x, 0, 16, 1, 2, 3, 4, 5, 6);
        fill(x, 1, 16, 0, 0, 0, 0, 0, 0);
        due("39: copy", x.copy(0, 1, 1, 3, 3), 3);
        x.load(1);
        dueList(this, x, "39: they came", 0, 0, 0, 2, 3, 4);
        due("39: forwards within one", x.copy(0, 0, 0, 1, 5), 5);
        x.load(0);
        dueList(this, x, "39: as they all were", 1, 1, 2, 3, 4, 5);
        due("39: backwards within one", x.copy(0, 2, 0, 0, 4), 4);
        x.load(0);
        dueList(this, x, "39: as they all were", 2, 3, 4, 5, 4, 5);
        due("39: none", x.copy(0, 6, 1, 0, 0), 0);
        due("39: all", x.copy(0, 0, 1, 0, 6), 6);
    }

    private void copyFindings() {
        MangleKin x = new MangleKin();
        fill(x, 0, 16, 1, 2, 3);
        fill(x, 1, 16, 4, 5);
        fill(x, 2, 8, 6, 7);
        beyond("39: sheet 4 to", x.copy(0, 0, 4, 0, 1));
        beyond("39: sheet -1 from", x.copy(-1, 0, 0, 0, 1));
        due("39: no sheet comes ahead of missing", x.copy(3, 0, 4, 0, 1), BEYOND);
        due("39: missing from", x.copy(3, 0, 0, 0, 1), MISSING);
        due("39: missing to", x.copy(0, 0, 3, 0, 1), MISSING);
        due("39: other bits", x.copy(0, 0, 2, 0, 1), KIND);
        due("39: other bits come ahead of too many", x.copy(0, 0, 2, 0, 99), KIND);
        beyond("39: from has not so many", x.copy(1, 0, 0, 0, 3));
        beyond("39: from has not so many there", x.copy(0, 2, 1, 0, 2));
        beyond("39: to has not so many", x.copy(0, 0, 1, 0, 3));
        beyond("39: to has not so many there", x.copy(0, 0, 1, 1, 2));
        beyond("39: from -1", x.copy(0, -1, 1, 0, 1));
        beyond("39: to -1", x.copy(0, 0, 1, -1, 1));
        beyond("39: n -1", x.copy(0, 0, 1, 0, -1));
        beyond("39: from and n wrap around", x.copy(0, Integer.MAX_VALUE, 1, 0, 1));
        beyond("39: n the most", x.copy(0, 1, 1, 0, Integer.MAX_VALUE));
        beyond("39: to the most", x.copy(0, 0, 1, Integer.MAX_VALUE, 1));
        beyond("39: none, from behind the end", x.copy(0, 4, 1, 0, 0));
        x.load(1);
        dueList(this, x, "39: the sheet is left", 4, 5);
    }

    private void load() {
        MangleKin x = new MangleKin();
        fill(x, 0, 16, 255, 0, 7, 256, 8);
        for (int i = 0; i < 6; i++) {
            x.list(i, 99);
        }
        due("40: up to one above 255", x.load(0), 3);
        dueList(this, x, "40: they came", 255, 0, 7, 99, 99, 99);
        fill(x, 0, 16, 5, -1, 6);
        due("40: up to one below 0", x.load(0), 1);
        dueList(this, x, "40: one came", 5, 0, 7);
        fill(x, 0, 8, 1, 2, 3, 4, 5, 6, 7, 8);
        due("40: there are 6 places", x.load(0), 6);
        dueList(this, x, "40: six came", 1, 2, 3, 4, 5, 6);
        beyond("40: sheet 4", x.load(4));
        beyond("40: sheet -1", x.load(-1));
        due("40: missing", x.load(1), MISSING);
    }

    private void judge() {
        MangleKin x = with(0, 0, 0);
        x.make(0, 1, 5);
        x.make(1, 2, 300);
        fill(x, 0, 16, 5, 0, 300);
        due("41: so it is", x.judge(0, 1), 0);
        due("41: not of 0", x.judge(0, 0), 1);
        fill(x, 0, 16, 5, 1, 300);
        due("41: to itself it's 0", x.judge(0, 1), 2);
        fill(x, 0, 16, 5, 0, 301);
        due("41: the third isn't", x.judge(0, 1), 3);
        fill(x, 0, 16, 5, 0);
        due("41: fewer numbers, all so", x.judge(0, 1), 0);
        fill(x, 0, 16);
        due("41: no numbers", x.judge(0, 1), 0);
        fill(x, 0, 16, 5, 0, 300, 0);
        due("41: a number for nobody", x.judge(0, 1), 4);
        fill(x, 0, 16, -1, 0, 300);
        due("41: -1 isn't any here", x.judge(0, 1), 1);
        fill(x, 0, 8, 5, 0, 300);
        due("41: of 8 bits 300 is 44", x.judge(0, 1), 3);
        beyond("41: sheet 4", x.judge(4, 0));
        beyond("41: sheet -1", x.judge(-1, 0));
        due("41: MISSING comes ahead of nobody", x.judge(1, 9), MISSING);
        beyond("41: nobody", x.judge(0, 3));
        beyond("41: nobody below", x.judge(0, -1));
        MangleKin y = with(0, 0, 0, 0, 0, 0, 0, 0);
        y.sheet(0, 8, 9);
        due("41: nine numbers of 8 people", y.judge(0, 7), 9);
    }
}
