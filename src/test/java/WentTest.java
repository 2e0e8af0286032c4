/** Promises 26 to 28: what went in. */
public final class WentTest extends Promises {
    public static void main(String[] args) {
        WentTest t = new WentTest();
        t.fits();
        t.signs();
        t.findings();
        t.kinds();
        t.end();
    }

    private void fits() {
        MangleKin x = with(0, 0, 0);
        fill(x, 0, 16);
        due("26: a sheet of no numbers", x.fits(0, 0, 0, 1), 256);
        due("27: the least", x.went(0, 0, 0, 1), 0);
        fill(x, 0, 16, 0, 7);
        due("26: both in: 64 sets", x.fits(0, 0, 0, 2), 64);
        due("27: the least", x.went(0, 0, 0, 2), 5);
        due("26: another place is too late", x.fits(0, 1, 0, 2), 0);
        due("27: none", x.went(0, 1, 0, 2), NONE);
        fill(x, 0, 16, 0, 0);
        due("26: not both", x.fits(0, 0, 0, 2), 192);
        due("26: at a place that isn't due", x.fits(0, 5, 0, 2), 256);
        fill(x, 0, 16, -1, 7, 6, -1, 4);
        due("26: any, 7, 6, any, 4", x.fits(0, 0, 0, 2), 64);
        fill(x, 0, 16, 1, 7);
        due("26: now it isn't so", x.fits(0, 0, 0, 2), 0);
        fill(x, 0, 16, -1, -1, 7);
        due("26: at place 1 both", x.fits(0, 1, 0, 2), 64);
        x.list(1, 4);
        due("26: at place 0 who is kept meets 2; not both", x.fits(0, 0, 0, 2), 32);
        due("27: 0 alone", x.went(0, 0, 0, 2), 1);
        due("26: the list is as it was", x.listed(0), 0);
        due("26: no turn went by", x.now(0), 0);
        x.person(0); x.person(0); x.person(0); x.person(0); x.person(0);
        fill(x, 0, 16, 0, 7);
        due("26: of 8 people", x.fits(0, 0, 0, 7), 64);
        due("27: of 8 people", x.went(0, 0, 0, 7), 129);
    }

    private void signs() {
        MangleKin x = with(0, 0);
        fill(x, 1, 8, 255, 255);
        due("26: of 8 bits 255 is -1: any", x.fits(1, 0, 0, 1), 256);
        fill(x, 1, 8, 0, 7);
        due("27: all of two", x.went(1, 0, 0, 1), 3);
        fill(x, 1, 16, 255, 255);
        due("26: of 16 it is 255", x.fits(1, 0, 0, 1), 0);
        fill(x, 1, 16, -2);
        due("26: -2 is no kin", x.fits(1, 0, 0, 1), 0);
        fill(x, 1, 32, 65536);
        due("26: of 32 bits", x.fits(1, 0, 0, 1), 0);
        fill(x, 1, 16, 65536);
        due("26: of 16 it is 0", x.fits(1, 0, 0, 1), 256);
    }

    private void findings() {
        MangleKin x = with(0, 0);
        fill(x, 0, 8, 0);
        beyond("26: sheet 4", x.fits(4, 0, 0, 1));
        beyond("26: sheet -1", x.fits(-1, 0, 0, 1));
        due("26: MISSING comes ahead of no place", x.fits(1, 9, 0, 0), MISSING);
        due("26: no sheet comes ahead of all", x.fits(4, 9, 0, 0), BEYOND);
        beyond("26: place 6", x.fits(0, 6, 0, 1));
        beyond("26: place -1", x.fits(0, -1, 0, 1));
        beyond("26: the same", x.fits(0, 0, 1, 1));
        beyond("26: nobody", x.fits(0, 0, 0, 2));
        beyond("27: sheet 4", x.went(4, 0, 0, 1));
        due("27: MISSING comes ahead of no place", x.went(1, 9, 0, 0), MISSING);
        beyond("27: place 6", x.went(0, 6, 0, 1));
        beyond("27: the same", x.went(0, 0, 0, 0));
        beyond("27: nobody", x.went(0, 0, 2, 0));
        beyond("28: sheet 4", x.kinds(4, 0));
        beyond("28: sheet -1", x.kinds(-1, 9));
        due("28: MISSING comes ahead of nobody", x.kinds(1, 9), MISSING);
        beyond("28: nobody", x.kinds(0, 2));
        beyond("28: nobody below", x.kinds(0, -1));
        due("28: MISSING is counted", x.status(5), 3);
    }

    private void kinds() {
        MangleKin x = with(0, 0, 0);
        x.change(1, 1, 50);
        x.change(2, 1, 50);
        x.list(0, 7);
        fill(x, 2, 16);
        due("28: no numbers: all", x.kinds(2, 0), 127);
        fill(x, 2, 16, 0, 14);
        due("28: twice 4 and 3: a person", x.kinds(2, 0), 1);
        fill(x, 2, 16, 0, 10);
        due("28: twice 2 and 3: lord, heir", x.kinds(2, 0), 66);
        fill(x, 2, 16, -1, 12);
        due("28: twice 3 and 3: widow, sunday", x.kinds(2, 0), 24);
        fill(x, 2, 16, 0, 6);
        due("28: starched, dry", x.kinds(2, 0), 32);
        fill(x, 2, 16, 0, 18, 14);
        due("28: a boy, and who fades by 2", x.kinds(2, 0), 4);
        fill(x, 2, 16, 0, 18, 15);
        due("28: a boy doesn't fade so", x.kinds(2, 0), 0);
        fill(x, 2, 16, 1);
        due("28: now it isn't so", x.kinds(2, 0), 0);
        due("28: kind is as it was", x.of(0, 0), 0);
        due("28: no turn went by", x.now(0), 0);
    }
}
