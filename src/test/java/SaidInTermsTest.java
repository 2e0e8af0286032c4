/** The head of the document, its findings and terms 1 and 2, sentence by sentence. */
public final class SaidInTermsTest extends Sentences {
    private static final String FINDINGS = "FINDINGS are answers below -1000000: LOW is -1000001; LOW BEYOND, "
        + "LOW - 1 FULL, LOW - 2 KIND, LOW - 3 NONE, LOW - 4 STATE, LOW - 5 MISSING, LOW - 6 SIZE (in longs, too).";
    private static final String SETS = "Sets (of PEOPLE, where nothing else is told) are told as bits; of several "
        + "that would do the least number counts, where nothing else is told.";
    private static final String THE_LIST = "THE LIST: six sets of PEOPLE (bits 0 to 7; those that there aren't "
        + "don't count), one for TURN modulo 6 (empty at first).";
    private static final String PEOPLE = "PEOPLE 0, 1, .. (at most 8), of KINDS: 0 PERSON; 1 LORD, 2 BOY, "
        + "5 STARCHED under PERSON; 3 WIDOW under BOY; 4 SUNDAY under WIDOW; 6 HEIR under LORD; each with a WORTH "
        + "(0 to 99; 4 at first).";
    private static final String KIN = "KIN of two (0 to 999; 0 at first; as near one way as the other).";
    private static final String BY_HOW_ALL_IS = "By how all is ahead of it: KIN of each two that GO IN both is more "
        + "by the lesser of what the two BRING, and DAMP (999 at most); KIN of each other two less by the greater of "
        + "what the two FADE (0 at least).";
    private static final String GO_IN = "A TURN goes by: those of the set that THE LIST tells for TURN modulo 6, "
        + "and who is KEPT, GO IN.";
    private static final String THEN_KEPT = "Then KEPT is of those that went in that of the greatest number "
        + "(nobody, if none did).";
    private static final String DRAWS = "DRAWS: z is told (1 at first); each makes it z * 1103515245 + 12345 "
        + "(an int), and gives z >>> 8.";

    public static void main(String[] args) throws Exception { new SaidInTermsTest().askAll(); }

    // ---- the head

    @Says(promise = 0, value = "An object is used for at most 512 calls after it has been made; what later calls "
        + "answer is free.")
    void the512thCallAnswersToo() {
        MangleKin x = with(0, 0);
        for (int call = 3; call <= 511; call++) {
            x.damp(call % 10);
        }
        due("call 512, damp", x.damp(0), 1);
        MangleKin y = new MangleKin();
        for (int call = 1; call <= 511; call++) {
            y.damp(10);
        }
        due("call 512, status behind 511 refused ones", y.status(-1), 511);
    }

    @Says(promise = 0, value = FINDINGS)
    void findingsAreTheseNumbers() {
        MangleKin x = eight(0);
        x.hold(0, 0);
        due("BEYOND", x.damp(10), -1000001);
        due("FULL", x.person(0), -1000002);
        due("KIND", x.as(0, 1), -1000003);
        due("NONE", x.undo(), -1000004);
        due("STATE", atTurn(99999).go(1), -1000005);
        due("MISSING", x.load(0), -1000006);
        due("SIZE", x.sheet(0, 8, -1), -1000007);
        due("BEYOND in a long", x.odds(0, 41, 0), -1000001L);
    }

    @Says(promise = 0, value = "What seed() and count(6) tell, z, may be any int: that is no finding.")
    void zIsNoFinding() {
        MangleKin x = new MangleKin();
        int[] zs = {-1000001, -1000002, -1000003, -1000004, -1000005, -1000006, -1000007, LEAST, MOST, 0, -1, 1};
        int was = 1;
        for (int z : zs) {
            due("seed(" + z + ")", x.seed(z), was);
            due("count(6)", x.count(6), z);
            was = z;
        }
        for (int which = -1; which <= 6; which++) {
            due("status(" + which + ")", x.status(which), 0);
        }
    }

    @Says(promise = 0, value = "Quotients are cut.")
    void quotientsAreCut() {
        MangleKin x = with(1, 3, 5);
        x.change(0, 1, 99);
        due("half of 99", x.of(0, 2), 49);
        x.change(0, 1, 1);
        due("half of 1", x.of(0, 2), 0);
        x.change(1, 1, 5);
        due("half of 7", x.of(1, 2), 3);
        x.damp(8);
        due("3 less 8 by 3", x.of(2, 3), 1);
    }

    @Says(promise = 0, value = SETS)
    void setsAreBits() {
        MangleKin x = eight(0);
        due("0 and 7", x.put(0, 7, 7, 1), 129);
        due("7 alone", x.clan(7, 1), 128);
        due("nobody", x.now(2), 0);
        x.list(0, 255);
        due("all of 8", x.now(2), 255);
        x.sheet(0, 8, 0);
        due("all KINDS", x.kinds(0, 0), 127);
    }

    @Says(promise = 0, value = SETS)
    void theLeastOfSeveralCounts() {
        MangleKin x = eight(0);
        x.sheet(0, 8, 0);
        due("to whom KIN is greatest", x.of(7, 5), 0);
        due("the two whose KIN is greatest", x.now(5), 1);
        due("KIND", x.kindFor(3, 0), 0);
        due("DAMP", x.dampFor(0, 1, 0, 0), 0);
        due("who, if ironed", x.divorce(1), 0);
        due("a set that fits", x.went(0, 0, 0, 1), 0);
        x.list(0, 255);
        due("whom to leave out", x.apart(6, 7, 0, 1), 64);
    }

    // ---- 1: damp, list, kept, people, kin

    @Says(promise = 0, value = "DAMP (0 to 9; 3 at first).")
    void damp() {
        MangleKin x = new MangleKin();
        due("at first", x.now(4), 3);
        due("0", x.damp(0), 3);
        due("it is 0", x.now(4), 0);
        due("9", x.damp(9), 0);
        due("it is 9", x.now(4), 9);
        beyond("-1", x.damp(-1));
        beyond("10", x.damp(10));
        due("it stays 9", x.now(4), 9);
    }

    @Says(promise = 0, value = THE_LIST)
    void thoseThatThereArentDontCount() {
        MangleKin x = new MangleKin();
        x.list(0, 255);
        due("nobody is there", x.now(2), 0);
        x.person(1);
        due("one is", x.now(2), 1);
        due("told as it was", x.listed(0), 255);
        x.list(0, 254);
        due("one is, but isn't in it", x.now(2), 0);
        x.person(1);
        due("bit 1 counts with the second one", x.now(2), 2);
        for (int p = 2; p < 8; p++) {
            x.person(1);
        }
        due("bits 1 to 7 with the eighth one", x.now(2), 254);
        x.list(0, 128);
        due("bit 7", x.now(2), 128);
        x.list(0, 1);
        due("bit 0", x.now(2), 1);
    }

    @Says(promise = 0, value = THE_LIST)
    void emptyAtFirst() {
        MangleKin x = eight(0);
        for (int turn = 0; turn < 7; turn++) {
            due("place", x.listed(turn % 6), 0);
            due("who goes in", x.now(2), 0);
            x.go(1);
        }
    }

    @Says(promise = 0, value = THE_LIST)
    void oneForTurnModulo6() {
        for (int i = 0; i < 6; i++) {
            MangleKin x = lords();
            x.list(i, 3);
            int kin = 0;
            for (int turn = 0; turn < 14; turn++) {
                kin += turn % 6 == i ? 1 : 0;
                x.go(1);
                due("place " + i + " behind turn " + turn, x.kin(0, 1), kin);
            }
        }
    }

    @Says(promise = 0, value = "KEPT: one of PEOPLE, or -1: nobody (at first).")
    void keptAtFirst() {
        due("nobody is there", new MangleKin().now(3), -1);
        due("people are there", eight(2).now(3), -1);
        MangleKin x = with(0);
        x.list(0, 1);
        x.go(1);
        due("one of them", x.now(3), 0);
    }

    @Says(promise = 0, value = PEOPLE)
    void peopleAreAtMost8() {
        MangleKin x = new MangleKin();
        for (int p = 0; p < 8; p++) {
            due("a new one", x.person(0), p);
        }
        due("a 9th", x.person(0), FULL);
        due("there are 8", x.count(1), 8);
    }

    @Says(promise = 0, value = PEOPLE)
    void kindsStandUnderOneAnother() {
        MangleKin x = with(0, 1, 2, 3, 4, 5, 6);
        int[][] as = {{0}, {0, 1}, {0, 2}, {0, 2, 3}, {0, 2, 3, 4}, {0, 5}, {0, 1, 6}};
        for (int kind = 0; kind < 7; kind++) {
            x.hold(kind, kind);
            for (int upper = 0; upper < 7; upper++) {
                boolean under = false;
                for (int one : as[kind]) {
                    under |= one == upper;
                }
                due(kind + " as " + upper, x.as(kind, upper), under ? kind : KIND);
            }
        }
    }

    @Says(promise = 0, value = PEOPLE)
    void worth() {
        for (int kind = 0; kind < 7; kind++) {
            due("4 at first, kind " + kind, with(kind).of(0, 1), 4);
        }
        MangleKin x = with(0);
        due("0", x.change(0, 1, 0), 4);
        due("99", x.change(0, 1, 99), 0);
        beyond("100", x.change(0, 1, 100));
        beyond("-1", x.change(0, 1, -1));
        due("it stays 99", x.of(0, 1), 99);
    }

    @Says(promise = 0, value = KIN)
    void kinOfTwo() {
        MangleKin x = with(0, 0, 0);
        due("0 at first", x.kin(0, 1), 0);
        due("999", x.make(0, 1, 999), 0);
        due("as near the other way", x.kin(1, 0), 999);
        due("made the other way", x.make(1, 0, 0), 999);
        due("as near one way", x.kin(0, 1), 0);
        beyond("1000", x.make(0, 1, 1000));
        beyond("-1", x.make(0, 1, -1));
        due("it stays 0", x.kin(1, 0), 0);
    }

    // ---- what kinds bring

    /** What one of a kind and worth brings, and what a TURN adds with a rich one: no damp. */
    private void brings(int kind, int worth, int want) {
        MangleKin x = with(kind, 0);
        x.damp(0);
        x.change(0, 1, worth);
        x.change(1, 1, 99);
        x.list(0, 3);
        due("of worth " + worth, x.of(0, 2), want);
        x.go(1);
        due("of worth " + worth + ", in a TURN", x.kin(0, 1), Math.min(99, want));
    }

    @Says(promise = 0, value = "BRINGS (to the KIN with another one that goes in with it): PERSON: WORTH.")
    void aPersonBrings() {
        brings(0, 0, 0);
        brings(0, 1, 1);
        brings(0, 99, 99);
    }

    @Says(promise = 0, value = "BRINGS (to the KIN with another one that goes in with it): PERSON: WORTH.")
    void nothingToOneThatDoesntGoInWithIt() {
        MangleKin x = with(0, 0);
        x.list(0, 1);
        x.go(1);
        due("one alone goes in", x.kin(0, 1), 0);
    }

    @Says(promise = 0, value = "LORD: half (cut) of that of a PERSON.")
    void aLordBrings() {
        brings(1, 0, 0);
        brings(1, 1, 0);
        brings(1, 2, 1);
        brings(1, 99, 49);
    }

    @Says(promise = 0, value = "HEIR: as a LORD, and 1 for each other one to whom its KIN is 10 or more.")
    void anHeirBrings() {
        brings(6, 0, 0);
        brings(6, 1, 0);
        brings(6, 99, 49);
        MangleKin x = with(6, 0, 0, 0, 0, 0, 0, 0);
        x.change(0, 1, 9);
        x.make(1, 2, 999);
        due("KIN of others", x.of(0, 2), 4);
        x.make(0, 1, 9);
        due("KIN 9", x.of(0, 2), 4);
        x.make(0, 1, 10);
        due("KIN 10", x.of(0, 2), 5);
        x.make(0, 7, 999);
        due("KIN 999", x.of(0, 2), 6);
        for (int p = 1; p < 8; p++) {
            x.make(0, p, 10);
        }
        due("all others, not itself", x.of(0, 2), 11);
    }

    @Says(promise = 0, value = "BOY: as a PERSON, and 2.")
    void aBoyBrings() {
        brings(2, 0, 2);
        brings(2, 97, 99);
        brings(2, 99, 101);
    }

    @Says(promise = 0, value = "WIDOW: half (cut) of a BOY.")
    void aWidowBrings() {
        brings(3, 0, 1);
        brings(3, 1, 1);
        brings(3, 2, 2);
        brings(3, 99, 50);
    }

    @Says(promise = 0, value = "SUNDAY: as a WIDOW, and 9, if TURN leaves 6 by 7.")
    void aSundayBrings() {
        brings(4, 0, 1);
        brings(4, 1, 1);
        brings(4, 99, 50);
        int[] turns = {0, 5, 6, 7, 8, 12, 13, 14, 20, 60};
        for (int turn : turns) {
            MangleKin x = atTurn(turn, 4, 0);
            x.change(1, 1, 99);
            x.damp(0);
            x.list(turn % 6, 3);
            boolean sunday = turn == 6 || turn == 13 || turn == 20;
            due("TURN " + turn, x.of(0, 2), sunday ? 12 : 3);
            x.go(1);
            due("in TURN " + turn, x.kin(0, 1), sunday ? 12 : 3);
        }
    }

    @Says(promise = 0, value = "STARCHED: as a PERSON, if DAMP is 5 or more, else 0.")
    void aStarchedBrings() {
        for (int damp = 0; damp <= 9; damp++) {
            MangleKin x = with(5, 0);
            x.change(0, 1, 33);
            x.change(1, 1, 99);
            x.list(0, 3);
            x.damp(damp);
            due("DAMP " + damp, x.of(0, 2), damp >= 5 ? 33 : 0);
            x.go(1);
            due("in a TURN, DAMP " + damp, x.kin(0, 1), damp >= 5 ? 33 + damp : damp);
        }
    }

    // ---- what kinds fade

    /** What one of a kind fades, and what is left of KIN 50 to a lord, who doesn't: both at a DAMP. */
    private void fades(int kind, int damp, int want) {
        MangleKin x = with(kind, 1);
        x.damp(damp);
        x.make(0, 1, 50);
        due("damp " + damp, x.of(0, 3), want);
        x.go(1);
        due("in a TURN, damp " + damp, x.kin(0, 1), 50 - want);
    }

    @Says(promise = 0, value = "FADES (by how much its KIN to one that doesn't go in with it is less in a TURN): "
        + "PERSON: 1.")
    void aPersonFades() {
        fades(0, 0, 1);
        fades(0, 9, 1);
    }

    @Says(promise = 0, value = "FADES (by how much its KIN to one that doesn't go in with it is less in a TURN): "
        + "PERSON: 1.")
    void toOneThatDoesntGoInWithIt() {
        MangleKin x = with(0, 0, 0, 0);
        x.damp(0);
        for (int p = 0; p < 4; p++) {
            x.change(p, 1, 0);
        }
        x.make(0, 1, 50);
        x.make(1, 2, 50);
        x.make(2, 3, 50);
        x.list(0, 3);
        x.go(1);
        due("both go in", x.kin(0, 1), 50);
        due("one goes in", x.kin(1, 2), 49);
        due("none goes in", x.kin(2, 3), 49);
    }

    @Says(promise = 0, value = "LORD: 0.")
    void aLordFades() {
        fades(1, 0, 0);
        fades(1, 9, 0);
    }

    @Says(promise = 0, value = "HEIR: as a LORD.")
    void anHeirFades() {
        fades(6, 0, 0);
        fades(6, 9, 0);
    }

    @Says(promise = 0, value = "BOY: as a PERSON, and 1.")
    void aBoyFades() {
        fades(2, 0, 2);
        fades(2, 9, 2);
    }

    @Says(promise = 0, value = "WIDOW: as a BOY, less 1.")
    void aWidowFades() {
        fades(3, 0, 1);
        fades(3, 9, 1);
    }

    @Says(promise = 0, value = "SUNDAY: as a WIDOW.")
    void aSundayFades() {
        fades(4, 0, 1);
        fades(4, 9, 1);
        MangleKin x = atTurn(6, 4, 1);
        due("also at TURN 6", x.of(0, 3), 1);
    }

    @Says(promise = 0, value = "STARCHED: 3, less DAMP by 3 (cut; 0 at least).")
    void aStarchedFades() {
        int[] want = {3, 3, 3, 2, 2, 2, 1, 1, 1, 0};
        for (int damp = 0; damp <= 9; damp++) {
            fades(5, damp, want[damp]);
        }
    }

    // ---- 2: turns

    @Says(promise = 0, value = GO_IN)
    void whoIsKeptGoesIn() {
        MangleKin x = with(1, 1, 1);
        x.damp(1);
        x.list(0, 2);
        due("ahead of it the set alone", x.now(2), 2);
        x.go(1);
        due("who is kept, without a set", x.now(2), 2);
        x.list(1, 5);
        due("the set and who is kept", x.now(2), 7);
        x.list(1, 2);
        due("who is kept is in the set, too", x.now(2), 2);
        x.list(1, 4);
        x.go(1);
        due("who is kept and the set", x.kin(1, 2), 3);
        due("not the others", x.kin(0, 1), 0);
    }

    /** KIN of two of these worths that go in both, from some KIN on. */
    private static int kinOfTwo(int worth, int other, int damp, int kin) {
        MangleKin x = with(0, 0);
        x.change(0, 1, worth);
        x.change(1, 1, other);
        x.damp(damp);
        x.make(0, 1, kin);
        x.list(0, 3);
        x.go(1);
        return x.kin(0, 1);
    }

    @Says(promise = 0, value = BY_HOW_ALL_IS)
    void theLesserOfWhatTheTwoBring() {
        due("5 and 9", kinOfTwo(5, 9, 0, 0), 5);
        due("9 and 5", kinOfTwo(9, 5, 0, 0), 5);
        due("5 and 5", kinOfTwo(5, 5, 0, 0), 5);
        due("0 and 99", kinOfTwo(0, 99, 0, 0), 0);
    }

    @Says(promise = 0, value = BY_HOW_ALL_IS)
    void andDamp() {
        due("no damp", kinOfTwo(5, 9, 0, 7), 12);
        due("damp 1", kinOfTwo(5, 9, 1, 7), 13);
        due("damp 9", kinOfTwo(5, 9, 9, 7), 21);
        due("damp 9 alone", kinOfTwo(0, 0, 9, 7), 16);
    }

    @Says(promise = 0, value = BY_HOW_ALL_IS)
    void at999AtMost() {
        due("998", kinOfTwo(4, 4, 3, 991), 998);
        due("999", kinOfTwo(4, 4, 3, 992), 999);
        due("1000", kinOfTwo(4, 4, 3, 993), 999);
        due("from 999 on", kinOfTwo(99, 99, 9, 999), 999);
        due("from 999 on, by nothing", kinOfTwo(0, 0, 0, 999), 999);
    }

    /** KIN of two of these kinds, of whom none goes in, from some KIN on: dry. */
    private static int leftOfTwo(int kind, int other, int kin) {
        MangleKin x = with(kind, other);
        x.damp(0);
        x.make(0, 1, kin);
        x.go(1);
        return x.kin(0, 1);
    }

    @Says(promise = 0, value = BY_HOW_ALL_IS)
    void theGreaterOfWhatTheTwoFade() {
        due("person and boy", leftOfTwo(0, 2, 50), 48);
        due("boy and person", leftOfTwo(2, 0, 50), 48);
        due("boy and starched", leftOfTwo(2, 5, 50), 47);
        due("two lords", leftOfTwo(1, 1, 50), 50);
        due("two boys", leftOfTwo(2, 2, 50), 48);
    }

    @Says(promise = 0, value = BY_HOW_ALL_IS)
    void at0AtLeast() {
        due("3 less 2", leftOfTwo(2, 2, 3), 1);
        due("2 less 2", leftOfTwo(2, 2, 2), 0);
        due("1 less 2", leftOfTwo(2, 2, 1), 0);
        due("0 less 3", leftOfTwo(5, 5, 0), 0);
    }

    @Says(promise = 0, value = BY_HOW_ALL_IS)
    void asAllIsAheadOfIt() {
        MangleKin x = with(6, 0, 0, 0);
        x.damp(1);
        x.change(0, 1, 0);
        x.make(0, 1, 9);
        x.make(0, 2, 9);
        x.list(0, 15);
        x.list(1, 15);
        x.go(1);
        due("the first of three, KIN still 9", x.kin(0, 1), 10);
        due("the last of three, KIN still 9", x.kin(0, 3), 1);
        x.go(1);
        due("the next TURN, KIN 10 to two", x.kin(0, 3), 4);
    }

    @Says(promise = 0, value = BY_HOW_ALL_IS)
    void allTwosOfAFullHouse() {
        MangleKin x = eight(0);
        x.list(0, 255);
        due("28 times 7", x.go(1), 196);
        due("7 of them ironed", x.iron(7), 49);
        due("21 times 6", x.go(1), 126);
    }

    @Says(promise = 0, value = THEN_KEPT)
    void thatOfTheGreatestNumber() {
        MangleKin x = eight(0);
        x.list(0, 7);
        x.list(1, 1);
        x.list(2, 8);
        x.list(3, 255);
        x.go(1);
        due("of 0, 1, 2", x.now(3), 2);
        x.go(1);
        due("who was kept went in, too", x.now(3), 2);
        x.go(1);
        due("3 went in", x.now(3), 3);
        x.go(1);
        due("all went in", x.now(3), 7);
        x.go(1);
        due("an empty set: who is kept went in", x.now(3), 7);
    }

    @Says(promise = 0, value = THEN_KEPT)
    void nobodyIfNoneDid() {
        MangleKin x = with(0, 0);
        x.go(1);
        due("an empty set", x.now(3), -1);
        x.list(1, 252);
        x.go(1);
        due("those that there aren't", x.now(3), -1);
        MangleKin y = new MangleKin();
        y.list(0, 255);
        y.go(1);
        due("nobody is there", y.now(3), -1);
        y.person(0);
        due("who comes later wasn't kept", y.now(3), -1);
    }

    @Says(promise = 0, value = "TURN is one more (99999 at most).")
    void turnIsOneMore() {
        MangleKin x = with(0, 0);
        due("at first", x.now(0), 0);
        x.go(1);
        due("behind one", x.now(0), 1);
        x.go(60);
        due("behind 61", x.now(0), 61);
    }

    /** So far no object comes within 512 calls; but the class keeps the document's words there, too. */
    @Says(promise = 0, value = "TURN is one more (99999 at most).")
    void turnIs99999AtMost() {
        MangleKin x = atTurn(99999, 1, 1);
        x.damp(0);
        due("TURN", x.now(0), 99999);
        x.list(3, 3);
        due("99999 modulo 6 is 3: the same place each time", x.ahead(0, 1, 60), 120);
        x.list(3, 0);
        x.list(4, 3);
        due("place 4 doesn't come", x.ahead(0, 1, 60), 0);
        due("TURN stays", x.now(0), 99999);
    }

    // ---- near, steps, clans, draws

    @Says(promise = 0, value = "NEAR for v: two whose KIN is v or more.")
    void nearForV() {
        MangleKin x = with(0, 0);
        x.make(0, 1, 1);
        due("KIN 1 for 1", x.steps(0, 1, 1), 1);
        due("KIN 1 for 2", x.steps(0, 1, 2), NONE);
        x.make(0, 1, 999);
        due("KIN 999 for 999", x.steps(0, 1, 999), 1);
        x.make(0, 1, 998);
        due("KIN 998 for 999", x.steps(0, 1, 999), NONE);
        due("KIN 998 for 998", x.steps(0, 1, 998), 1);
        due("KIN 998 for 997", x.steps(0, 1, 997), 1);
    }

    @Says(promise = 0, value = "STEPS: from one to another one by two that are NEAR each time.")
    void stepsByTwoThatAreNear() {
        MangleKin x = with(0, 0, 0);
        x.make(0, 1, 5);
        x.make(1, 2, 4);
        due("each is near for 4", x.steps(0, 2, 4), 2);
        due("one isn't for 5", x.steps(0, 2, 5), NONE);
        x.make(0, 2, 4);
        due("without one between", x.steps(0, 2, 4), 1);
    }

    @Says(promise = 0, value = "CLANS: those who come to one another by STEPS (one alone is one, too).")
    void oneAloneIsAClan() {
        due("one is there", with(0).clans(1), 1);
        due("it is its clan", with(0).clan(0, 1), 1);
        MangleKin x = with(0, 0, 0);
        x.make(0, 2, 7);
        due("two and one", x.clans(7), 2);
        due("the one", x.clan(1, 7), 2);
        due("the two", x.clan(0, 7), 5);
        due("all alone", x.clans(8), 3);
        due("nobody is no clan", new MangleKin().clans(1), 0);
    }

    @Says(promise = 0, value = DRAWS)
    void zIs1AtFirst() {
        MangleKin x = new MangleKin();
        due("z", x.count(6), 1);
        x.washes(1);
        due("1103515245 and 12345", x.count(6), 1103527590);
        due("by 256, its rest by 256", x.listed(0), 126);
    }

    /** A draw from z: what z is then, and the set. */
    private void draw(int z, int then, int set) {
        MangleKin x = new MangleKin();
        x.seed(z);
        x.washes(1);
        due("z from " + z, x.count(6), then);
        due("the set from " + z, x.listed(0), set);
    }

    @Says(promise = 0, value = DRAWS)
    void zWrapsAround() {
        draw(0, 12345, 0x30);
        draw(2, 0x838CCD13, 0xCD);
        draw(-1, 0xBE39E1CC, 0xE1);
        draw(MOST, 0x3E39E1CC, 0xE1);
        draw(LEAST, 0x80003039, 0x30);
    }
}
