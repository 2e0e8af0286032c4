import java.util.Arrays;

/**
 * Two families share one mangle, and whatever goes through on the same turn is related.
 *
 * The document's face is here; what is so now, what would be so and what was kept are three Houses, so
 * that trying something never touches what is so. All rows are made with the object and used again: a
 * call makes nothing.
 */
public final class MangleKin {
    private static final int LOW = -1000001;
    private static final int BEYOND = LOW;
    private static final int FULL = LOW - 1;
    private static final int KIND = LOW - 2;
    private static final int NONE = LOW - 3;
    private static final int STATE = LOW - 4;
    private static final int MISSING = LOW - 5;
    private static final int SIZE = LOW - 6;
    private static final int FINDINGS = 7;

    private static final int MOST_PEOPLE = 8;
    private static final int PLACES = 6;
    private static final int TOP_SET = 255;
    private static final int TOP_DAMP = 9;
    private static final int TOP_WORTH = 99;
    private static final int TOP_KIN = 999;
    private static final int TOP_TURN = 99999;
    private static final int SPOTS = 10;
    private static final int NOBODY = -1;

    private static final int PERSON = 0;
    private static final int LORD = 1;
    private static final int BOY = 2;
    private static final int WIDOW = 3;
    private static final int SUNDAY = 4;
    private static final int STARCHED = 5;
    private static final int HEIR = 6;
    private static final int KINDS = 7;
    /** For each kind the one that it is under; -1 ends the way up. */
    private static final int[] ABOVE = {-1, PERSON, PERSON, BOY, WIDOW, PERSON, LORD};

    private static final int SHEETS = 4;
    private static final int SHEET_MOST = 40;
    private static final int ANY = -1;
    private static final int TAPE_MOST = 120;

    private static final int MOST_GO = 60;
    private static final int MOST_AHEAD = 60;
    private static final int MOST_WAIT = 100;
    private static final int MOST_PUT = 12;
    private static final int MOST_FOR = 40;
    private static final int MOST_WASHES = 20;
    private static final int MOST_ODDS = 40;

    private final House house;
    private final House trial;
    private final House picture;
    private boolean pictured;
    private final Tape tape;
    private final Sheet[] sheets;
    private final int[] found;

    public MangleKin() {
        house = new House();
        trial = new House();
        picture = new House();
        pictured = false;
        tape = new Tape();
        sheets = new Sheet[SHEETS];
        for (int s = 0; s < SHEETS; s++) {
            sheets[s] = new Sheet();
        }
        found = new int[FINDINGS];
    }

    // ---- damp, list, people

    public int damp(int v) {
        if (!within(v, 0, TOP_DAMP)) {
            return finding(BEYOND);
        }
        int was = house.damp;
        house.damp = v;
        return was;
    }

    public int list(int i, int set) {
        if (!within(i, 0, PLACES - 1) || !within(set, 0, TOP_SET)) {
            return finding(BEYOND);
        }
        int was = house.sets[i];
        house.sets[i] = set;
        return was;
    }

    public int listed(int i) {
        if (!within(i, 0, PLACES - 1)) {
            return finding(BEYOND);
        }
        return house.sets[i];
    }

    public int person(int kind) {
        if (!isKind(kind)) {
            return finding(BEYOND);
        }
        if (house.isFull()) {
            return finding(FULL);
        }
        return house.welcome(kind);
    }

    public int of(int person, int what) {
        if (!isThere(person)) {
            return finding(BEYOND);
        }
        switch (what) {
            case 0:
                return house.kinds[person];
            case 1:
                return house.worths[person];
            case 2:
                return house.brings(person);
            case 3:
                return house.fades(person);
            case 4:
                return house.kinToAll(person);
            case 5:
                return house.nearestTo(person);
            default:
                return finding(BEYOND);
        }
    }

    public int change(int person, int what, int v) {
        if (!isThere(person)) {
            return finding(BEYOND);
        }
        if (what == 0 && isKind(v)) {
            int was = house.kinds[person];
            house.kinds[person] = v;
            return was;
        }
        if (what == 1 && within(v, 0, TOP_WORTH)) {
            int was = house.worths[person];
            house.worths[person] = v;
            return was;
        }
        return finding(BEYOND);
    }

    public int kin(int a, int b) {
        if (!areTwo(a, b)) {
            return finding(BEYOND);
        }
        return house.kinOf(a, b);
    }

    public int make(int a, int b, int v) {
        if (!areTwo(a, b) || !isKin(v)) {
            return finding(BEYOND);
        }
        int was = house.kinOf(a, b);
        house.relate(a, b, v);
        return was;
    }

    public int iron(int person) {
        if (!isThere(person)) {
            return finding(BEYOND);
        }
        int was = house.kinToAll(person);
        house.flatten(person);
        return was;
    }

    // ---- turns

    public int go(int n) {
        if (!within(n, 1, MOST_GO)) {
            return finding(BEYOND);
        }
        if (house.turn + n > TOP_TURN) {
            return finding(STATE);
        }
        house.passTurns(n);
        return house.allKin();
    }

    public int now(int what) {
        switch (what) {
            case 0:
                return house.turn;
            case 1:
                return house.allKin();
            case 2:
                return house.goingIn();
            case 3:
                return house.keptOne;
            case 4:
                return house.damp;
            case 5:
                return house.nearestTwo();
            default:
                return finding(BEYOND);
        }
    }

    // ---- how near

    public int steps(int a, int b, int v) {
        if (!areTwo(a, b) || !isNearness(v)) {
            return finding(BEYOND);
        }
        int fewest = house.stepsBetween(a, b, v);
        return fewest < 1 ? finding(NONE) : fewest;
    }

    public int clans(int v) {
        if (!isNearness(v)) {
            return finding(BEYOND);
        }
        return house.clanCount(v);
    }

    public int clan(int person, int v) {
        if (!isThere(person) || !isNearness(v)) {
            return finding(BEYOND);
        }
        return house.clanOf(person, v);
    }

    public int tie(int a, int b) {
        if (!areTwo(a, b)) {
            return finding(BEYOND);
        }
        int greatest = house.greatestTie(a, b);
        return greatest < 1 ? finding(NONE) : greatest;
    }

    // ---- what will be (nothing changes)

    public int ahead(int a, int b, int n) {
        if (!areTwo(a, b) || !within(n, 0, MOST_AHEAD)) {
            return finding(BEYOND);
        }
        trial.become(house);
        return kinBehind(a, b, n);
    }

    public int when(int a, int b, int v) {
        if (!areTwo(a, b) || !isKin(v)) {
            return finding(BEYOND);
        }
        trial.become(house);
        for (int n = 0; n <= MOST_WAIT; n++) {
            if (trial.kinOf(a, b) >= v) {
                return n;
            }
            trial.passTurn();
        }
        return finding(NONE);
    }

    public int first(int v) {
        if (!isKin(v)) {
            return finding(BEYOND);
        }
        trial.become(house);
        for (int n = 0; n <= MOST_WAIT; n++) {
            if (trial.people > 1 && trial.greatestKin() >= v) {
                return n;
            }
            trial.passTurn();
        }
        return finding(NONE);
    }

    public int one(int v) {
        if (!isNearness(v)) {
            return finding(BEYOND);
        }
        trial.become(house);
        for (int n = 0; n <= MOST_WAIT; n++) {
            if (trial.clanCount(v) <= 1) {
                return n;
            }
            trial.passTurn();
        }
        return finding(NONE);
    }

    // ---- whom to put in

    public int put(int a, int b, int v, int n) {
        if (!areTwo(a, b) || !isKin(v) || !within(n, 0, MOST_PUT)) {
            return finding(BEYOND);
        }
        int all = house.everyone();
        for (int many = 0; many <= house.people; many++) {
            for (int set = 0; set <= all; set++) {
                if (Integer.bitCount(set) == many && kinIfPut(set, a, b, n) >= v) {
                    return set;
                }
            }
        }
        return finding(NONE);
    }

    public int apart(int a, int b, int v, int n) {
        if (!areTwo(a, b) || !isKin(v) || !within(n, 0, MOST_PUT)) {
            return finding(BEYOND);
        }
        int all = house.everyone();
        for (int many = 0; many <= house.people; many++) {
            for (int set = 0; set <= all; set++) {
                if (Integer.bitCount(set) == many && kinIfLeftOut(set, a, b, n) <= v) {
                    return set;
                }
            }
        }
        return finding(NONE);
    }

    public int kindFor(int person, int n) {
        if (!isThere(person) || !within(n, 0, MOST_FOR)) {
            return finding(BEYOND);
        }
        int best = PERSON;
        int most = -1;
        for (int kind = 0; kind < KINDS; kind++) {
            trial.become(house);
            trial.kinds[person] = kind;
            trial.passTurns(n);
            int together = trial.kinToAll(person);
            if (together > most) {
                most = together;
                best = kind;
            }
        }
        return best;
    }

    public int dampFor(int a, int b, int v, int n) {
        if (!areTwo(a, b) || !isKin(v) || !within(n, 0, MOST_FOR)) {
            return finding(BEYOND);
        }
        for (int damp = 0; damp <= TOP_DAMP; damp++) {
            trial.become(house);
            trial.damp = damp;
            if (kinBehind(a, b, n) >= v) {
                return damp;
            }
        }
        return finding(NONE);
    }

    public int divorce(int v) {
        if (!isNearness(v)) {
            return finding(BEYOND);
        }
        int best = NOBODY;
        int most = 0;
        for (int p = 0; p < house.people; p++) {
            trial.become(house);
            trial.flatten(p);
            int left = trial.clanCount(v);
            if (left > most) {
                most = left;
                best = p;
            }
        }
        return best == NOBODY ? finding(NONE) : best;
    }

    // ---- what went in

    public int fits(int s, int i, int a, int b) {
        int fault = fitFault(s, i, a, b);
        if (fault != 0) {
            return finding(fault);
        }
        int all = house.everyone();
        int fitting = 0;
        for (int set = 0; set <= all; set++) {
            if (fitsIfListed(sheets[s], i, set, a, b)) {
                fitting++;
            }
        }
        // Those that aren't there don't count: each set stands for all that differ in them alone.
        return fitting << (MOST_PEOPLE - house.people);
    }

    public int went(int s, int i, int a, int b) {
        int fault = fitFault(s, i, a, b);
        if (fault != 0) {
            return finding(fault);
        }
        int all = house.everyone();
        for (int set = 0; set <= all; set++) {
            if (fitsIfListed(sheets[s], i, set, a, b)) {
                return set;
            }
        }
        return finding(NONE);
    }

    public int kinds(int s, int person) {
        int fault = sheetFault(s);
        if (fault != 0) {
            return finding(fault);
        }
        if (!isThere(person)) {
            return finding(BEYOND);
        }
        int fitting = 0;
        for (int kind = 0; kind < KINDS; kind++) {
            trial.become(house);
            trial.kinds[person] = kind;
            if (goesAsTold(sheets[s], person, NOBODY)) {
                fitting |= 1 << kind;
            }
        }
        return fitting;
    }

    // ---- wash days

    public int washes(int n) {
        if (!within(n, 1, MOST_WASHES)) {
            return finding(BEYOND);
        }
        if (house.turn + n > TOP_TURN) {
            return finding(STATE);
        }
        for (int k = 0; k < n; k++) {
            int set = house.drawn() & TOP_SET;
            house.sets[house.place()] = set;
            house.passTurn();
        }
        return house.allKin();
    }

    public long odds(int person, int n, int what) {
        if (!isThere(person) || !within(n, 0, MOST_ODDS) || !within(what, 0, 1)) {
            return finding(BEYOND);
        }
        // Half of the 256 sets are without one, whoever it is.
        return what == 0 ? 1L : 1L << n;
    }

    public int seed(int v) {
        int was = house.z;
        house.z = v;
        return was;
    }

    // ---- texts

    public int feed(int bytes, int n) {
        if (!within(n, 1, 4)) {
            return finding(BEYOND);
        }
        if (tape.length + n > TAPE_MOST) {
            return finding(FULL);
        }
        for (int k = n - 1; k >= 0; k--) {
            tape.take((bytes >>> (8 * k)) & 255);
        }
        return tape.length;
    }

    public int wipe() {
        int had = tape.length;
        tape.length = 0;
        return had;
    }

    public int text() {
        trial.become(house);
        int answer = tape.tellInto(trial);
        tape.length = 0;
        if (answer >= 0) {
            house.become(trial);
        }
        return answer;
    }

    // ---- spots, sheets

    public int hold(int spot, int person) {
        if (!within(spot, 0, SPOTS - 1) || (person != NOBODY && !isThere(person))) {
            return finding(BEYOND);
        }
        house.spots[spot] = person;
        return 1;
    }

    public int as(int spot, int kind) {
        if (!within(spot, 0, SPOTS - 1) || !isKind(kind)) {
            return finding(BEYOND);
        }
        int held = house.spots[spot];
        if (!isThere(held)) {
            return finding(MISSING);
        }
        return isUnder(house.kinds[held], kind) ? held : finding(KIND);
    }

    public int sheet(int s, int bits, int n) {
        if (!isSheet(s) || (bits != 0 && bits != 8 && bits != 16 && bits != 32)) {
            return finding(BEYOND);
        }
        if (n < 0) {
            return finding(SIZE);
        }
        if (n > SHEET_MOST) {
            return finding(BEYOND);
        }
        sheets[s].layOut(bits, bits == 0 ? 0 : n);
        return sheets[s].size;
    }

    public int write(int s, int i, int v) {
        int fault = sheetFault(s);
        if (fault != 0) {
            return finding(fault);
        }
        if (!within(i, 0, sheets[s].size - 1)) {
            return finding(BEYOND);
        }
        sheets[s].enter(i, v);
        return 1;
    }

    public int copy(int s, int from, int t, int to, int n) {
        if (!isSheet(s) || !isSheet(t)) {
            return finding(BEYOND);
        }
        if (sheets[s].isMissing() || sheets[t].isMissing()) {
            return finding(MISSING);
        }
        if (sheets[s].bits != sheets[t].bits) {
            return finding(KIND);
        }
        if (!sheets[s].hasRun(from, n) || !sheets[t].hasRun(to, n)) {
            return finding(BEYOND);
        }
        System.arraycopy(sheets[s].numbers, from, sheets[t].numbers, to, n);
        return n;
    }

    public int load(int s) {
        int fault = sheetFault(s);
        if (fault != 0) {
            return finding(fault);
        }
        int came = 0;
        while (came < PLACES && came < sheets[s].size && within(sheets[s].numbers[came], 0, TOP_SET)) {
            house.sets[came] = sheets[s].numbers[came];
            came++;
        }
        return came;
    }

    public int judge(int s, int person) {
        int fault = sheetFault(s);
        if (fault != 0) {
            return finding(fault);
        }
        if (!isThere(person)) {
            return finding(BEYOND);
        }
        for (int i = 0; i < sheets[s].size; i++) {
            // A number for whom there is nobody can't be KIN to them.
            if (!isThere(i) || sheets[s].numbers[i] != house.kinOf(person, i)) {
                return 1 + i;
            }
        }
        return 0;
    }

    // ---- images

    public int image() {
        picture.become(house);
        pictured = true;
        return 1;
    }

    public int undo() {
        if (!pictured) {
            return finding(NONE);
        }
        house.become(picture);
        return house.turn;
    }

    public int tear() {
        int was = pictured ? 1 : 0;
        pictured = false;
        return was;
    }

    public int count(int what) {
        switch (what) {
            case 0:
                return house.turn;
            case 1:
                return house.people;
            case 2:
                return house.clanCount(1);
            case 3:
                return house.allKin();
            case 4:
                return house.greatestKin();
            case 5:
                return tape.length;
            case 6:
                return house.z;
            case 7:
                return house.spotsHeld();
            default:
                return finding(BEYOND);
        }
    }

    public int status(int which) {
        if (within(which, 0, FINDINGS - 1)) {
            return found[which];
        }
        if (which != -1) {
            return finding(BEYOND);
        }
        int all = 0;
        for (int k = 0; k < FINDINGS; k++) {
            all += found[k];
        }
        return all;
    }

    // ---- what the calls share

    private int finding(int code) {
        int which = LOW - code;
        if (within(which, 0, FINDINGS - 1)) {
            found[which]++;
        }
        return code;
    }

    private static boolean within(int v, int least, int most) {
        return v >= least && v <= most;
    }

    private static boolean isKind(int kind) {
        return within(kind, 0, KINDS - 1);
    }

    private static boolean isKin(int v) {
        return within(v, 0, TOP_KIN);
    }

    private static boolean isNearness(int v) {
        return within(v, 1, TOP_KIN);
    }

    private static boolean isSheet(int s) {
        return within(s, 0, SHEETS - 1);
    }

    private boolean isThere(int person) {
        return within(person, 0, house.people - 1);
    }

    private boolean areTwo(int a, int b) {
        return isThere(a) && isThere(b) && a != b;
    }

    /** Whether a kind is another one, or stands under it. */
    private static boolean isUnder(int kind, int upper) {
        int at = kind;
        for (int level = 0; level < KINDS && isKind(at); level++) {
            if (at == upper) {
                return true;
            }
            at = ABOVE[at];
        }
        return false;
    }

    /** The finding that a sheet's number asks for, or 0. */
    private int sheetFault(int s) {
        if (!isSheet(s)) {
            return BEYOND;
        }
        return sheets[s].isMissing() ? MISSING : 0;
    }

    /** The finding that fits() and went() ask for ahead of all search, or 0. */
    private int fitFault(int s, int i, int a, int b) {
        int fault = sheetFault(s);
        if (fault != 0) {
            return fault;
        }
        return within(i, 0, PLACES - 1) && areTwo(a, b) ? 0 : BEYOND;
    }

    /** KIN of two when n TURNS more have gone by on trial. */
    private int kinBehind(int a, int b, int n) {
        for (int k = 0; k < n; k++) {
            trial.passTurn();
        }
        return trial.kinOf(a, b);
    }

    private int kinIfPut(int set, int a, int b, int n) {
        trial.become(house);
        trial.sets[trial.place()] = set;
        return kinBehind(a, b, n);
    }

    private int kinIfLeftOut(int set, int a, int b, int n) {
        trial.become(house);
        for (int i = 0; i < PLACES; i++) {
            trial.sets[i] &= ~set;
        }
        return kinBehind(a, b, n);
    }

    private boolean fitsIfListed(Sheet told, int i, int set, int a, int b) {
        trial.become(house);
        trial.sets[i] = set;
        return goesAsTold(told, a, b);
    }

    /**
     * Whether KIN of two on trial, now and behind each TURN further on, is as a sheet tells; where b is
     * nobody, KIN of a to all others together.
     */
    private boolean goesAsTold(Sheet told, int a, int b) {
        int upTo = told.toldSize();
        for (int k = 0; k < upTo; k++) {
            if (k > 0) {
                trial.passTurn();
            }
            int kin = b == NOBODY ? trial.kinToAll(a) : trial.kinOf(a, b);
            if (told.numbers[k] != ANY && told.numbers[k] != kin) {
                return false;
            }
        }
        return true;
    }

    /** All that an image keeps, and how a TURN changes it. */
    private static final class House {
        int damp = 3;
        int turn;
        int keptOne = NOBODY;
        int people;
        int z = 1;
        final int[] sets = new int[PLACES];
        final int[] kinds = new int[MOST_PEOPLE];
        final int[] worths = new int[MOST_PEOPLE];
        /** KIN of a and b stands at 8 times a and b, and the other way round as well. */
        final int[] kins = new int[MOST_PEOPLE * MOST_PEOPLE];
        final int[] spots = new int[SPOTS];
        /** What each one BRINGS and FADES in the TURN that goes by; nothing is kept here. */
        final int[] brought = new int[MOST_PEOPLE];
        final int[] faded = new int[MOST_PEOPLE];

        House() {
            Arrays.fill(spots, NOBODY);
        }

        void become(House other) {
            damp = other.damp;
            turn = other.turn;
            keptOne = other.keptOne;
            people = other.people;
            z = other.z;
            System.arraycopy(other.sets, 0, sets, 0, PLACES);
            System.arraycopy(other.kinds, 0, kinds, 0, MOST_PEOPLE);
            System.arraycopy(other.worths, 0, worths, 0, MOST_PEOPLE);
            System.arraycopy(other.kins, 0, kins, 0, MOST_PEOPLE * MOST_PEOPLE);
            System.arraycopy(other.spots, 0, spots, 0, SPOTS);
        }

        boolean isFull() {
            return people >= MOST_PEOPLE;
        }

        /** A new one's number; nobody, if there is no room. */
        int welcome(int kind) {
            if (isFull()) {
                return NOBODY;
            }
            kinds[people] = kind;
            worths[people] = 4;
            people++;
            return people - 1;
        }

        int everyone() {
            return (1 << people) - 1;
        }

        int kinOf(int a, int b) {
            return kins[a * MOST_PEOPLE + b];
        }

        void relate(int a, int b, int v) {
            kins[a * MOST_PEOPLE + b] = v;
            kins[b * MOST_PEOPLE + a] = v;
        }

        void flatten(int one) {
            for (int other = 0; other < people; other++) {
                relate(one, other, 0);
            }
        }

        int kinToAll(int one) {
            int together = 0;
            for (int other = 0; other < people; other++) {
                together += kinOf(one, other);
            }
            return together;
        }

        int nearestTo(int one) {
            int nearest = NOBODY;
            for (int other = 0; other < people; other++) {
                if (other != one && (nearest == NOBODY || kinOf(one, other) > kinOf(one, nearest))) {
                    nearest = other;
                }
            }
            return nearest;
        }

        int allKin() {
            int together = 0;
            for (int a = 0; a < people; a++) {
                for (int b = a + 1; b < people; b++) {
                    together += kinOf(a, b);
                }
            }
            return together;
        }

        int greatestKin() {
            int greatest = 0;
            for (int a = 0; a < people; a++) {
                for (int b = a + 1; b < people; b++) {
                    greatest = Math.max(greatest, kinOf(a, b));
                }
            }
            return greatest;
        }

        int nearestTwo() {
            int two = NOBODY;
            int greatest = -1;
            for (int a = 0; a < people; a++) {
                for (int b = a + 1; b < people; b++) {
                    if (kinOf(a, b) > greatest) {
                        greatest = kinOf(a, b);
                        two = a * MOST_PEOPLE + b;
                    }
                }
            }
            return two;
        }

        int brings(int one) {
            int worth = worths[one];
            switch (kinds[one]) {
                case LORD:
                    return worth / 2;
                case HEIR:
                    return worth / 2 + closeOnes(one);
                case BOY:
                    return worth + 2;
                case WIDOW:
                    return (worth + 2) / 2;
                case SUNDAY:
                    return (worth + 2) / 2 + (turn % 7 == 6 ? 9 : 0);
                case STARCHED:
                    return damp >= 5 ? worth : 0;
                default:
                    return worth;
            }
        }

        int closeOnes(int one) {
            int close = 0;
            for (int other = 0; other < people; other++) {
                if (other != one && kins[one * MOST_PEOPLE + other] >= 10) {
                    close++;
                }
            }
            return close;
        }

        int fades(int one) {
            switch (kinds[one]) {
                case LORD:
                case HEIR:
                    return 0;
                case BOY:
                    return 2;
                case STARCHED:
                    return Math.max(0, 3 - damp / 3);
                default:
                    // A WIDOW, and so a SUNDAY, fades 1 less than a BOY: as a PERSON does.
                    return 1;
            }
        }

        /** The place of THE LIST for the TURN that comes next. */
        int place() {
            return turn % PLACES;
        }

        int goingIn() {
            int in = sets[place()] & everyone();
            return keptOne == NOBODY ? in : in | (1 << keptOne);
        }

        void passTurns(int n) {
            for (int k = 0; k < n; k++) {
                passTurn();
            }
        }

        void passTurn() {
            int in = goingIn();
            keptOne = NOBODY;
            for (int p = 0; p < people; p++) {
                brought[p] = has(in, p) ? brings(p) : 0;
                faded[p] = fades(p);
                if (has(in, p)) {
                    keptOne = p;
                }
            }
            for (int a = 0; a < people; a++) {
                for (int b = a + 1; b < people; b++) {
                    relate(a, b, has(in, a) && has(in, b) ? grown(a, b) : shrunk(a, b));
                }
            }
            turn = Math.min(TOP_TURN, turn + 1);
        }

        int grown(int a, int b) {
            return Math.min(TOP_KIN, kinOf(a, b) + Math.min(brought[a], brought[b]) + damp);
        }

        int shrunk(int a, int b) {
            return Math.max(0, kinOf(a, b) - Math.max(faded[a], faded[b]));
        }

        static boolean has(int set, int one) {
            return ((set >> one) & 1) == 1;
        }

        /** A set with all who are NEAR one of it for v. */
        int widened(int set, int v) {
            int wider = set;
            for (int a = 0; a < people; a++) {
                for (int b = 0; b < people; b++) {
                    if (has(set, a) && kinOf(a, b) >= v) {
                        wider |= 1 << b;
                    }
                }
            }
            return wider;
        }

        /** The fewest STEPS from one to another one; 0, if there are none. */
        int stepsBetween(int a, int b, int v) {
            int reached = 1 << a;
            for (int n = 1; n < people; n++) {
                reached = widened(reached, v);
                if (has(reached, b)) {
                    return n;
                }
            }
            return 0;
        }

        int clanOf(int one, int v) {
            int reached = 1 << one;
            for (int n = 1; n < people; n++) {
                int wider = widened(reached, v);
                if (wider == reached) {
                    return reached;
                }
                reached = wider;
            }
            return reached;
        }

        int clanCount(int v) {
            int counted = 0;
            int clans = 0;
            for (int p = 0; p < people; p++) {
                if (!has(counted, p)) {
                    counted |= clanOf(p, v);
                    clans++;
                }
            }
            return clans;
        }

        /** The greatest v for which two are in one CLAN, which is always the KIN of some two; or 0. */
        int greatestTie(int a, int b) {
            int greatest = 0;
            for (int c = 0; c < people; c++) {
                for (int d = c + 1; d < people; d++) {
                    int v = kinOf(c, d);
                    if (v > greatest && has(clanOf(a, v), b)) {
                        greatest = v;
                    }
                }
            }
            return greatest;
        }

        /** The next of the DRAWS. */
        int drawn() {
            z = z * 1103515245 + 12345;
            return z >>> 8;
        }

        int spotsHeld() {
            int held = 0;
            for (int spot = 0; spot < SPOTS; spot++) {
                if (spots[spot] != NOBODY) {
                    held++;
                }
            }
            return held;
        }
    }

    /** A row of numbers; of 0 bits it is MISSING. */
    private static final class Sheet {
        int bits;
        int size;
        final int[] numbers = new int[SHEET_MOST];

        boolean isMissing() {
            return bits == 0;
        }

        void layOut(int newBits, int newSize) {
            bits = newBits;
            size = newSize;
            Arrays.fill(numbers, 0);
        }

        void enter(int i, int v) {
            numbers[i] = bits == 8 ? (byte) v : bits == 16 ? (short) v : v;
        }

        /** How many numbers there are up to the last that doesn't tell any: no TURN behind it matters. */
        int toldSize() {
            int upTo = size;
            while (upTo > 0 && numbers[upTo - 1] == ANY) {
                upTo--;
            }
            return upTo;
        }

        /** Whether there are n numbers from one on; asked so that nothing can wrap around. */
        boolean hasRun(int from, int n) {
            return from >= 0 && n >= 0 && from <= size && n <= size - from;
        }
    }

    /** THE TAPE, and the TOKEN of it at which the reading stands. */
    private static final class Tape {
        private static final int END = 0;
        private static final int WORD = 1;
        private static final int NUMBER = 2;
        private static final int SIGN = 3;
        private static final int OTHER = 4;

        final int[] bytes = new int[TAPE_MOST];
        int length;
        int sort;
        int start;
        int end;
        int value;

        void take(int b) {
            if (length < TAPE_MOST) {
                bytes[length] = b;
                length++;
            }
        }

        /** All that the TEXT tells becomes so in a house: how many ITEMS, or -1 less the FAULT. */
        int tellInto(House draft) {
            end = 0;
            advance();
            // Each ITEM takes a byte at least, so there are no more than bytes.
            for (int items = 1; items <= TAPE_MOST; items++) {
                if (!tellItem(draft)) {
                    return -1 - start;
                }
                if (sort == END) {
                    return items;
                }
                if (sort != SIGN) {
                    return -1 - start;
                }
                advance();
            }
            return -1 - start;
        }

        boolean tellItem(House draft) {
            for (int kind = 0; kind < KINDS; kind++) {
                if (isWord(nameOf(kind))) {
                    return !draft.isFull() && tellPerson(draft, draft.welcome(kind));
                }
            }
            if (isWord("list")) {
                return tellList(draft);
            }
            return isWord("damp") && tellDamp(draft);
        }

        boolean tellPerson(House draft, int one) {
            advance();
            if (isWord("worth")) {
                advance();
                if (!isNumber(TOP_WORTH)) {
                    return false;
                }
                draft.worths[one] = value;
                advance();
            }
            return !isWord("kin") || tellKin(draft, one);
        }

        boolean tellKin(House draft, int one) {
            advance();
            if (!isNumber(one - 1)) {
                return false;
            }
            int other = value;
            advance();
            if (!isNumber(TOP_KIN)) {
                return false;
            }
            draft.relate(one, other, value);
            advance();
            return true;
        }

        boolean tellList(House draft) {
            advance();
            if (!isNumber(PLACES - 1)) {
                return false;
            }
            int i = value;
            advance();
            if (!isNumber(TOP_SET)) {
                return false;
            }
            draft.sets[i] = value;
            advance();
            return true;
        }

        boolean tellDamp(House draft) {
            advance();
            if (!isNumber(TOP_DAMP)) {
                return false;
            }
            draft.damp = value;
            advance();
            return true;
        }

        static String nameOf(int kind) {
            switch (kind) {
                case LORD:
                    return "lord";
                case BOY:
                    return "boy";
                case WIDOW:
                    return "widow";
                case SUNDAY:
                    return "sunday";
                case STARCHED:
                    return "starched";
                case HEIR:
                    return "heir";
                default:
                    return "person";
            }
        }

        boolean isWord(String word) {
            if (sort != WORD || word.length() != end - start) {
                return false;
            }
            for (int k = 0; k < word.length(); k++) {
                if (word.charAt(k) != bytes[start + k]) {
                    return false;
                }
            }
            return true;
        }

        boolean isNumber(int most) {
            return sort == NUMBER && value <= most;
        }

        /** Goes on to the TOKEN behind the one at which the reading stands. */
        void advance() {
            start = end;
            while (start < length && bytes[start] == ' ') {
                start++;
            }
            end = start;
            sort = start < length ? sortOf(bytes[start]) : END;
            value = 0;
            while (end < length && sort == WORD && sortOf(bytes[end]) == WORD) {
                end++;
            }
            while (end < length && sort == NUMBER && sortOf(bytes[end]) == NUMBER) {
                // Digits may be many: one above all that may be told is as good as the number itself.
                value = Math.min(TOP_KIN + 1, value * 10 + bytes[end] - '0');
                end++;
            }
            if (sort == SIGN) {
                end++;
            }
        }

        /** The sort of TOKEN that a byte begins. */
        static int sortOf(int b) {
            if (b >= 'a' && b <= 'z') {
                return WORD;
            }
            if (b >= '0' && b <= '9') {
                return NUMBER;
            }
            return b == ';' ? SIGN : OTHER;
        }
    }
}
