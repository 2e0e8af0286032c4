import java.util.ArrayList;
import java.util.List;

/** What the document says of findings: their order, and that nothing changes by them but status(). */
public final class RefusedTest extends Sentences {
    private static final String ORDER = "Each act tells its findings in the order in which they are asked (that of its "
        + "words); one that answers a finding changes nothing but status().";

    public static void main(String[] args) throws Exception { new RefusedTest().askAll(); }

    private interface Act { long on(MangleKin x); }

    private interface Start { MangleKin get(); }

    /**
     * Five people with kin, one of them kept; spots, z and damp told; a tape that ends amid a TEXT; sheets 0 to 2
     * of 8, 16 and 16 bits, 3 MISSING; an image that is not as all is now.
     */
    private static MangleKin rich() {
        MangleKin x = with(6, 0, 4, 5, 2);
        x.damp(8);
        x.make(0, 4, 30);
        x.list(0, 7);
        x.hold(3, 2);
        x.seed(555);
        x.image();
        x.go(1);
        x.damp(5);
        x.list(0, 9);
        x.list(1, 128);
        x.list(5, 255);
        x.change(1, 1, 77);
        x.make(1, 3, 400);
        x.hold(3, 4);
        x.hold(9, 0);
        x.seed(-9);
        Due.feedAll(x, "boy;dam");
        fill(x, 0, 8, 3, 1, 4);
        fill(x, 1, 16, 200, 100);
        fill(x, 2, 16, 9, 8, 7, 6);
        return x;
    }

    private static MangleKin richAndFull() {
        MangleKin x = rich();
        x.person(1);
        x.person(3);
        x.person(0);
        return x;
    }

    private static MangleKin fullTape() {
        MangleKin x = rich();
        Due.feedAll(x, blanks(113));
        return x;
    }

    private static MangleKin nearlyFullTape() {
        MangleKin x = rich();
        Due.feedAll(x, blanks(111));
        return x;
    }

    private static MangleKin torn() {
        MangleKin x = rich();
        x.tear();
        return x;
    }

    private static MangleKin strangers() {
        MangleKin x = rich();
        for (int p = 0; p < 5; p++) {
            x.iron(p);
        }
        for (int i = 0; i < 6; i++) {
            x.list(i, 0);
        }
        return x;
    }

    private static MangleKin late() {
        MangleKin x = atTurn(99990, 0, 0);
        x.list(0, 3);
        x.make(0, 1, 60);
        return x;
    }

    /** All that can be asked of an object; what can't be asked without a change comes last. */
    private static List<Long> whole(MangleKin x) {
        List<Long> all = new ArrayList<>();
        told(x, all);
        all.add((long) Due.feedAll(x, "p 7"));
        all.add((long) x.text());
        all.add((long) x.now(4));
        all.add((long) x.count(1));
        for (int s = 0; s < 4; s++) {
            all.add((long) x.load(s));
            for (int i = 0; i < 6; i++) {
                all.add((long) x.listed(i));
            }
            for (int i = 0; i < 6; i++) {
                all.add((long) x.write(s, i, 65536 + 200));
            }
            all.add((long) x.load(s));
        }
        all.add((long) x.undo());
        told(x, all);
        all.add((long) x.tear());
        return all;
    }

    private static void told(MangleKin x, List<Long> all) {
        for (int what = 0; what < 8; what++) {
            all.add((long) x.count(what));
        }
        for (int what = 0; what < 6; what++) {
            all.add((long) x.now(what));
            all.add((long) x.listed(what));
        }
        for (int p = 0; p < x.count(1); p++) {
            for (int what = 0; what < 6; what++) {
                all.add((long) x.of(p, what));
            }
            for (int q = 0; q < p; q++) {
                all.add((long) x.kin(p, q));
            }
        }
        for (int spot = 0; spot < 10; spot++) {
            all.add((long) x.as(spot, 0));
        }
    }

    /** An act answers a finding, which is counted; all else is as if it had not been asked. */
    private void refused(String call, int finding, Start start, Act act) {
        MangleKin x = start.get();
        MangleKin y = start.get();
        due(call, act.on(x), finding);
        for (int which = -1; which <= 6; which++) {
            int more = which == -1 || which == Due.LOW - finding ? 1 : 0;
            due(call + ", then status(" + which + ")", x.status(which), y.status(which) + more);
        }
        so(call + " changes nothing", whole(x).equals(whole(y)));
    }

    private void refused(String call, int finding, Act act) { refused(call, finding, RefusedTest::rich, act); }

    // ---- one finding at a time

    @Says(promise = 0, value = ORDER)
    void dampListPeople() {
        refused("damp(10)", BEYOND, x -> x.damp(10));
        refused("list(6, 1)", BEYOND, x -> x.list(6, 1));
        refused("list(0, 256)", BEYOND, x -> x.list(0, 256));
        refused("listed(6)", BEYOND, x -> x.listed(6));
        refused("person(7)", BEYOND, x -> x.person(7));
        refused("person(0), a 9th", FULL, RefusedTest::richAndFull, x -> x.person(0));
        refused("of(5, 0)", BEYOND, x -> x.of(5, 0));
        refused("of(0, 6)", BEYOND, x -> x.of(0, 6));
        refused("change(5, 0, 0)", BEYOND, x -> x.change(5, 0, 0));
        refused("change(0, 0, 7)", BEYOND, x -> x.change(0, 0, 7));
        refused("change(0, 1, 100)", BEYOND, x -> x.change(0, 1, 100));
        refused("change(0, 2, 1)", BEYOND, x -> x.change(0, 2, 1));
        refused("kin(1, 1)", BEYOND, x -> x.kin(1, 1));
        refused("make(1, 1, 7)", BEYOND, x -> x.make(1, 1, 7));
        refused("make(0, 1, 1000)", BEYOND, x -> x.make(0, 1, 1000));
        refused("make(0, 5, 1)", BEYOND, x -> x.make(0, 5, 1));
        refused("iron(5)", BEYOND, x -> x.iron(5));
    }

    @Says(promise = 0, value = ORDER)
    void turns() {
        refused("go(0)", BEYOND, x -> x.go(0));
        refused("go(61)", BEYOND, x -> x.go(61));
        refused("go(10)", STATE, RefusedTest::late, x -> x.go(10));
        refused("now(6)", BEYOND, x -> x.now(6));
        refused("washes(0)", BEYOND, x -> x.washes(0));
        refused("washes(21)", BEYOND, x -> x.washes(21));
        refused("washes(10)", STATE, RefusedTest::late, x -> x.washes(10));
        refused("odds(5, 1, 0)", BEYOND, x -> x.odds(5, 1, 0));
        refused("odds(0, 41, 0)", BEYOND, x -> x.odds(0, 41, 0));
        refused("odds(0, 1, 2)", BEYOND, x -> x.odds(0, 1, 2));
    }

    @Says(promise = 0, value = ORDER)
    void nearness() {
        refused("steps(1, 1, 1)", BEYOND, x -> x.steps(1, 1, 1));
        refused("steps(0, 1, 0)", BEYOND, x -> x.steps(0, 1, 0));
        refused("steps(0, 1, 999)", NONE, x -> x.steps(0, 1, 999));
        refused("clans(0)", BEYOND, x -> x.clans(0));
        refused("clan(5, 1)", BEYOND, x -> x.clan(5, 1));
        refused("tie(1, 1)", BEYOND, x -> x.tie(1, 1));
        refused("tie(0, 1)", NONE, RefusedTest::strangers, x -> x.tie(0, 1));
        refused("ahead(0, 1, 61)", BEYOND, x -> x.ahead(0, 1, 61));
        refused("when(0, 1, 1000)", BEYOND, x -> x.when(0, 1, 1000));
        refused("when(0, 1, 1)", NONE, RefusedTest::strangers, x -> x.when(0, 1, 1));
        refused("first(1000)", BEYOND, x -> x.first(1000));
        refused("first(1)", NONE, RefusedTest::strangers, x -> x.first(1));
        refused("one(0)", BEYOND, x -> x.one(0));
        refused("one(1)", NONE, RefusedTest::strangers, x -> x.one(1));
    }

    @Says(promise = 0, value = ORDER)
    void choices() {
        refused("put(0, 1, 0, 13)", BEYOND, x -> x.put(0, 1, 0, 13));
        refused("put(0, 1, 999, 12)", NONE, x -> x.put(0, 1, 999, 12));
        refused("apart(0, 1, 0, 13)", BEYOND, x -> x.apart(0, 1, 0, 13));
        refused("apart(1, 3, 0, 12)", NONE, x -> x.apart(1, 3, 0, 12));
        refused("kindFor(0, 41)", BEYOND, x -> x.kindFor(0, 41));
        refused("dampFor(0, 1, 0, 41)", BEYOND, x -> x.dampFor(0, 1, 0, 41));
        refused("dampFor(0, 1, 999, 12)", NONE, x -> x.dampFor(0, 1, 999, 12));
        refused("divorce(0)", BEYOND, x -> x.divorce(0));
        refused("divorce(1)", NONE, MangleKin::new, x -> x.divorce(1));
        refused("fits(4, 0, 0, 1)", BEYOND, x -> x.fits(4, 0, 0, 1));
        refused("fits(3, 0, 0, 1)", MISSING, x -> x.fits(3, 0, 0, 1));
        refused("fits(0, 6, 0, 1)", BEYOND, x -> x.fits(0, 6, 0, 1));
        refused("went(4, 0, 0, 1)", BEYOND, x -> x.went(4, 0, 0, 1));
        refused("went(3, 0, 0, 1)", MISSING, x -> x.went(3, 0, 0, 1));
        refused("went(0, 0, 1, 1)", BEYOND, x -> x.went(0, 0, 1, 1));
        refused("went(1, 0, 0, 1)", NONE, x -> x.went(1, 0, 0, 1));
        refused("kinds(4, 0)", BEYOND, x -> x.kinds(4, 0));
        refused("kinds(3, 0)", MISSING, x -> x.kinds(3, 0));
        refused("kinds(0, 5)", BEYOND, x -> x.kinds(0, 5));
    }

    @Says(promise = 0, value = ORDER)
    void textsAndSpots() {
        refused("feed(1, 0)", BEYOND, x -> x.feed(1, 0));
        refused("feed(1, 5)", BEYOND, x -> x.feed(1, 5));
        refused("feed(1, 1), the 121st", FULL, RefusedTest::fullTape, x -> x.feed(1, 1));
        refused("feed(1, 3), the 121st", FULL, RefusedTest::nearlyFullTape, x -> x.feed(1, 3));
        refused("hold(10, 0)", BEYOND, x -> x.hold(10, 0));
        refused("hold(3, 5)", BEYOND, x -> x.hold(3, 5));
        refused("as(10, 0)", BEYOND, x -> x.as(10, 0));
        refused("as(4, 0)", MISSING, x -> x.as(4, 0));
        refused("as(3, 6)", KIND, x -> x.as(3, 6));
    }

    @Says(promise = 0, value = ORDER)
    void sheets() {
        refused("sheet(4, 8, 1)", BEYOND, x -> x.sheet(4, 8, 1));
        refused("sheet(0, 7, 1)", BEYOND, x -> x.sheet(0, 7, 1));
        refused("sheet(0, 16, -1)", SIZE, x -> x.sheet(0, 16, -1));
        refused("sheet(0, 0, -1)", SIZE, x -> x.sheet(0, 0, -1));
        refused("sheet(0, 16, 41)", BEYOND, x -> x.sheet(0, 16, 41));
        refused("sheet(0, 0, 41)", BEYOND, x -> x.sheet(0, 0, 41));
        refused("write(4, 0, 1)", BEYOND, x -> x.write(4, 0, 1));
        refused("write(3, 0, 1)", MISSING, x -> x.write(3, 0, 1));
        refused("write(0, 3, 1)", BEYOND, x -> x.write(0, 3, 1));
        refused("copy(4, 0, 0, 0, 1)", BEYOND, x -> x.copy(4, 0, 0, 0, 1));
        refused("copy(0, 0, 3, 0, 1)", MISSING, x -> x.copy(0, 0, 3, 0, 1));
        refused("copy(0, 0, 1, 0, 1)", KIND, x -> x.copy(0, 0, 1, 0, 1));
        refused("copy(2, 0, 1, 0, 3)", BEYOND, x -> x.copy(2, 0, 1, 0, 3));
        refused("copy(1, 0, 2, 0, 3)", BEYOND, x -> x.copy(1, 0, 2, 0, 3));
        refused("load(4)", BEYOND, x -> x.load(4));
        refused("load(3)", MISSING, x -> x.load(3));
        refused("judge(4, 0)", BEYOND, x -> x.judge(4, 0));
        refused("judge(3, 0)", MISSING, x -> x.judge(3, 0));
        refused("judge(0, 5)", BEYOND, x -> x.judge(0, 5));
    }

    @Says(promise = 0, value = ORDER)
    void imagesAndCounts() {
        refused("undo()", NONE, RefusedTest::torn, x -> x.undo());
        refused("count(8)", BEYOND, x -> x.count(8));
        refused("status(7)", BEYOND, x -> x.status(7));
        refused("status(-2)", BEYOND, x -> x.status(-2));
    }

    // ---- two at a time: the first of its words is told

    @Says(promise = 0, value = ORDER)
    void beyondAheadOfAnother() {
        refused("person(7), a 9th", BEYOND, RefusedTest::richAndFull, x -> x.person(7));
        refused("go(61), late", BEYOND, RefusedTest::late, x -> x.go(61));
        refused("washes(21), late", BEYOND, RefusedTest::late, x -> x.washes(21));
        refused("feed(1, 5), a full tape", BEYOND, RefusedTest::fullTape, x -> x.feed(1, 5));
        refused("as(4, 7), nothing held", BEYOND, x -> x.as(4, 7));
        refused("as(10, 0), nothing held", BEYOND, x -> x.as(10, 0));
        refused("as(3, 7), held", BEYOND, x -> x.as(3, 7));
        refused("divorce(0), nobody there", BEYOND, MangleKin::new, x -> x.divorce(0));
        refused("first(1000), nobody there", BEYOND, MangleKin::new, x -> x.first(1000));
        refused("tie(1, 1), strangers", BEYOND, RefusedTest::strangers, x -> x.tie(1, 1));
        refused("steps(0, 1, 1000), strangers", BEYOND, RefusedTest::strangers, x -> x.steps(0, 1, 1000));
        refused("steps(1, 1, 1), strangers", BEYOND, RefusedTest::strangers, x -> x.steps(1, 1, 1));
        refused("when(1, 1, 999), strangers", BEYOND, RefusedTest::strangers, x -> x.when(1, 1, 999));
        refused("when(0, 1, 1000), strangers", BEYOND, RefusedTest::strangers, x -> x.when(0, 1, 1000));
        refused("one(1000), strangers", BEYOND, RefusedTest::strangers, x -> x.one(1000));
        refused("put(0, 1, 999, 13)", BEYOND, x -> x.put(0, 1, 999, 13));
        refused("put(0, 1, 1000, 0)", BEYOND, x -> x.put(0, 1, 1000, 0));
        refused("apart(1, 3, 0, 13)", BEYOND, x -> x.apart(1, 3, 0, 13));
        refused("apart(1, 3, -1, 0)", BEYOND, x -> x.apart(1, 3, -1, 0));
        refused("dampFor(0, 1, 1000, 0)", BEYOND, x -> x.dampFor(0, 1, 1000, 0));
    }

    @Says(promise = 0, value = ORDER)
    void noSuchSheetAheadOfAll() {
        refused("fits(4, 6, 1, 1)", BEYOND, x -> x.fits(4, 6, 1, 1));
        refused("went(4, 6, 1, 1)", BEYOND, x -> x.went(4, 6, 1, 1));
        refused("kinds(4, 5)", BEYOND, x -> x.kinds(4, 5));
        refused("write(4, 40, 1)", BEYOND, x -> x.write(4, 40, 1));
        refused("judge(4, 5)", BEYOND, x -> x.judge(4, 5));
        refused("sheet(4, 8, -1)", BEYOND, x -> x.sheet(4, 8, -1));
        refused("copy(3, 0, 4, 0, 1)", BEYOND, x -> x.copy(3, 0, 4, 0, 1));
        refused("copy(4, 0, 3, 0, 1)", BEYOND, x -> x.copy(4, 0, 3, 0, 1));
    }

    @Says(promise = 0, value = ORDER)
    void missingAheadOfTheLaterBeyond() {
        refused("fits(3, 6, 0, 1)", MISSING, x -> x.fits(3, 6, 0, 1));
        refused("fits(3, 0, 1, 1)", MISSING, x -> x.fits(3, 0, 1, 1));
        refused("went(3, 6, 0, 1)", MISSING, x -> x.went(3, 6, 0, 1));
        refused("went(3, 0, 1, 1)", MISSING, x -> x.went(3, 0, 1, 1));
        refused("kinds(3, 5)", MISSING, x -> x.kinds(3, 5));
        refused("write(3, 40, 1)", MISSING, x -> x.write(3, 40, 1));
        refused("judge(3, 5)", MISSING, x -> x.judge(3, 5));
        refused("copy(3, -1, 0, 0, 1)", MISSING, x -> x.copy(3, -1, 0, 0, 1));
        refused("copy(0, 0, 3, 0, 99)", MISSING, x -> x.copy(0, 0, 3, 0, 99));
    }

    @Says(promise = 0, value = ORDER)
    void beyondAheadOfNoneInWent() {
        refused("went(1, 6, 0, 1)", BEYOND, x -> x.went(1, 6, 0, 1));
        refused("went(1, 0, 0, 5)", BEYOND, x -> x.went(1, 0, 0, 5));
    }

    @Says(promise = 0, value = ORDER)
    void otherBitsAheadOfSizeAheadOfAbove40() {
        refused("sheet(0, 7, -1)", BEYOND, x -> x.sheet(0, 7, -1));
        refused("sheet(0, 8, LEAST)", SIZE, x -> x.sheet(0, 8, LEAST));
        refused("sheet(0, 7, 41)", BEYOND, x -> x.sheet(0, 7, 41));
    }

    @Says(promise = 0, value = ORDER)
    void kindAheadOfTheLaterBeyondInCopy() {
        refused("copy(0, 0, 1, 0, 3)", KIND, x -> x.copy(0, 0, 1, 0, 3));
        refused("copy(0, -1, 1, 0, 1)", KIND, x -> x.copy(0, -1, 1, 0, 1));
        refused("copy(0, 0, 1, 0, -1)", KIND, x -> x.copy(0, 0, 1, 0, -1));
    }
}
