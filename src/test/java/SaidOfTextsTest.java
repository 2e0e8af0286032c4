/** Term 3 and promises 32 to 34, sentence by sentence: texts. */
public final class SaidOfTextsTest extends Sentences {
    private static final String TAPE = "A TEXT is read from THE TAPE (bytes, at most 120).";
    private static final String TOKENS = "TOKENS, each as long as can be: WORDS (letters a to z), NUMBERS (digits, 999 "
        + "at most), SIGN ; ; blanks may stand between.";
    private static final String TEXT = "TEXT: ITEM { ; ITEM }.";
    private static final String ITEM = "ITEM: person, lord, boy, widow, sunday, starched or heir, perhaps worth and a "
        + "NUMBER (0 to 99), perhaps kin and two NUMBERS (one who is there already, KIN, 0 to 999): a new one; list, "
        + "two NUMBERS (0 to 5, a set, 0 to 255); damp, a NUMBER (0 to 9).";
    private static final String FAULT = "FAULT: the place (from 0) of the first byte of the first TOKEN that can't "
        + "stand there (a NUMBER that isn't as told, another WORD, a byte that begins no TOKEN, the WORD of a 9th one: "
        + "its own), or how many bytes there are if it ends too early.";
    private static final String FEED = "THE TAPE gets the n lowest bytes of a number behind it, the highest of these "
        + "first (n 1 to 4): how many it has.";
    private static final String READ = "THE TAPE is a TEXT, and empty then; all that it tells is so, item by item: how "
        + "many ITEMS.";
    private static final String UNREAD = "With a FAULT: -1 less the FAULT (nothing changes but that THE TAPE is empty; "
        + "no finding).";
    private static final String[] KINDS = {"person", "lord", "boy", "widow", "sunday", "starched", "heir"};

    public static void main(String[] args) throws Exception { new SaidOfTextsTest().askAll(); }

    /** What a text answers where two people are there. */
    private void tells(String text, int want) { due("'" + text + "'", tell(with(0, 0), text), want); }

    private void fault(String text, int at) { tells(text, -1 - at); }

    private static boolean isLetter(int b) { return 'a' <= b && b <= 'z'; }

    private static boolean isDigit(int b) { return '0' <= b && b <= '9'; }

    /** What each of the 256 bytes answers within a text. */
    private interface Answer { int of(int b); }

    private void eachByte(String ahead, String behind, Answer want) {
        for (int b = 0; b < 256; b++) {
            due("'" + ahead + "', byte " + b + ", '" + behind + "'",
                tell(with(0, 0), ahead + (char) b + behind), want.of(b));
        }
    }

    // ---- 3: the tape, tokens, texts, items, faults

    @Says(promise = 0, value = TAPE)
    void aTextOf120Bytes() {
        MangleKin x = new MangleKin();
        due("fed", Due.feedAll(x, blanks(117) + "boy"), 120);
        due("one more", x.feed(' ', 1), FULL);
        due("read up to its last byte", x.text(), 1);
        due("a number up to the last byte", tell(x, "damp" + "0".repeat(115) + "8"), 1);
        due("damp", x.now(4), 8);
        due("one byte less", tell(x, "damp" + blanks(114) + "7"), 1);
    }

    @Says(promise = 0, value = TAPE)
    void noneBehindItsEnd() {
        MangleKin x = new MangleKin();
        Due.feedAll(x, "boyboy damp 55");
        x.wipe();
        due("what was wiped isn't read", tell(x, "boy"), 1);
        Due.feedAll(x, "damp 77");
        x.text();
        due("what was read isn't read again", tell(x, "damp 7"), 1);
    }

    @Says(promise = 0, value = TOKENS)
    void eachAsLongAsCanBe() {
        fault("boyworth 5", 0);
        fault("boyboy", 0);
        fault("list 0255", 5);
        fault("damp 19", 5);
        fault("dampdamp 1", 0);
        tells("damp1", 1);
        tells("boy worth5kin0 1;lord", 2);
        tells("list 5 5", 1);
        fault("list 55", 5);
    }

    @Says(promise = 0, value = TOKENS)
    void wordsOfLettersAToZ() {
        eachByte("boy", "", b -> isLetter(b) ? -1 : b == ' ' ? 1 : b == ';' ? -5 : -4);
        eachByte("", "boy", b -> isLetter(b) ? -1 : b == ' ' ? 1 : -1);
    }

    @Says(promise = 0, value = TOKENS)
    void numbersOfDigits() {
        eachByte("damp 1", "", b -> isDigit(b) ? -6 : b == ' ' ? 1 : b == ';' ? -8 : -7);
        eachByte("damp", "", b -> isDigit(b) ? 1 : isLetter(b) ? -1 : b == ' ' ? -6 : -5);
    }

    @Says(promise = 0, value = TOKENS)
    void numbersAre999AtMost() {
        tells("boy kin 0 999", 1);
        fault("boy kin 0 1000", 10);
        fault("boy kin 0 9990", 10);
        tells("boy kin 0 0999", 1);
        tells("boy kin 000000 00000000", 1);
        fault("damp 4294967296", 5);
        fault("damp 4294967297", 5);
        fault("damp 18446744073709551617", 5);
        fault("boy kin 0 " + "9".repeat(100), 10);
    }

    @Says(promise = 0, value = TOKENS)
    void blanksMayStandBetween() {
        tells("boy;lord", 2);
        tells("  boy  ;  lord  ", 2);
        tells("boy   worth   5   kin   1   7   ;   damp   3", 2);
        tells("boy worth5kin1 7;damp3", 2);
        fault("bo y", 0);
        fault("damp 1 0", 7);
        fault("boy\tworth 5", 3);
        fault("boy\nworth 5", 3);
    }

    @Says(promise = 0, value = TEXT)
    void itemsAndSigns() {
        tells("boy", 1);
        tells("boy;boy", 2);
        fault("", 0);
        fault("   ", 3);
        fault(";", 0);
        fault(";boy", 0);
        fault("boy;", 4);
        fault("boy;  ", 6);
        fault("boy;;boy", 4);
        fault("boy boy", 4);
        fault("damp 1 damp 2", 7);
        tells("damp1;".repeat(19) + "damp1", 20);
        fault("damp1;".repeat(20), 120);
    }

    @Says(promise = 0, value = ITEM)
    void aNewOneOfEachKind() {
        MangleKin x = new MangleKin();
        for (int kind = 0; kind < 7; kind++) {
            due(KINDS[kind], tell(x, KINDS[kind]), 1);
            due("its kind", x.of(kind, 0), kind);
            due("its worth, not told", x.of(kind, 1), 4);
            due("its kin, not told", x.of(kind, 4), 0);
        }
    }

    @Says(promise = 0, value = ITEM)
    void worth0To99() {
        MangleKin x = with(0);
        due("0 and 99", tell(x, "boy worth 0;heir worth 99"), 2);
        due("0", x.of(1, 1), 0);
        due("99", x.of(2, 1), 99);
        fault("boy worth 100", 10);
        fault("boy worth 999", 10);
        fault("boy worth -1", 10);
        fault("boy worth", 9);
        fault("boy worth kin 0 1", 10);
        fault("boy worth;lord", 9);
        fault("boy worth 1 2", 12);
        fault("boy worth 1 worth 2", 12);
    }

    @Says(promise = 0, value = ITEM)
    void kinOneWhoIsThereAlready() {
        MangleKin x = with(0, 0);
        due("the first", tell(x, "boy kin 0 5"), 1);
        due("the last", tell(x, "boy kin 2 6"), 1);
        due("one of the same text", tell(x, "boy;lord kin 4 7"), 2);
        due("KIN to the first", x.kin(2, 0), 5);
        due("KIN to the last", x.kin(2, 3), 6);
        due("KIN to one of the same text", x.kin(4, 5), 7);
        fault("boy kin 2 1", 8);
        fault("boy kin 3 1", 8);
        fault("boy kin 999 1", 8);
        fault("boy;boy kin 3 1", 12);
        due("nobody is there already", tell(new MangleKin(), "boy kin 0 1"), -9);
    }

    @Says(promise = 0, value = ITEM)
    void kin0To999() {
        MangleKin x = with(0);
        due("0 and 999", tell(x, "boy kin 0 0;lord kin 0 999"), 2);
        due("0", x.kin(0, 1), 0);
        due("999", x.kin(0, 2), 999);
        fault("boy kin 0 1000", 10);
        fault("boy kin", 7);
        fault("boy kin 0", 9);
        fault("boy kin 0;lord", 9);
        fault("boy kin worth", 8);
        fault("boy kin 0 worth 1", 10);
        fault("boy kin 0 1 2", 12);
        fault("boy kin 0 1 kin 1 1", 12);
        fault("boy kin 0 1 worth 5", 12);
        tells("boy worth 5 kin 0 1", 1);
    }

    @Says(promise = 0, value = ITEM)
    void listTwoNumbers() {
        MangleKin x = with(0);
        due("0 0, 0 255, 5 255", tell(x, "list 0 0;list 0 255;list 5 255"), 3);
        due("place 0", x.listed(0), 255);
        due("place 5", x.listed(5), 255);
        due("5 0", tell(x, "list 5 0"), 1);
        due("place 5 is empty", x.listed(5), 0);
        fault("list 6 0", 5);
        fault("list 0 256", 7);
        fault("list 0 999", 7);
        fault("list", 4);
        fault("list 0", 6);
        fault("list;damp 1", 4);
        fault("list 0;damp 1", 6);
        fault("list 0 0 0", 9);
        fault("list 0 0 worth 1", 9);
        fault("list damp", 5);
    }

    @Says(promise = 0, value = ITEM)
    void dampANumber() {
        MangleKin x = new MangleKin();
        due("0", tell(x, "damp 0"), 1);
        due("it is 0", x.now(4), 0);
        due("9", tell(x, "damp 9"), 1);
        due("it is 9", x.now(4), 9);
        fault("damp 10", 5);
        fault("damp", 4);
        fault("damp ", 5);
        fault("damp;boy", 4);
        fault("damp 1 1", 7);
        fault("damp 1 kin 0 1", 7);
        fault("damp boy", 5);
    }

    @Says(promise = 0, value = FAULT)
    void thePlaceFrom0() {
        fault("?", 0);
        fault(" ?", 1);
        fault(blanks(119) + "?", 119);
        fault("boy;" + blanks(112) + "boys", 116);
        fault("boy;?;damp 10", 4);
    }

    @Says(promise = 0, value = FAULT)
    void aNumberThatIsntAsTold() {
        fault("5", 0);
        fault("boy;5", 4);
        fault("boy 5", 4);
        fault("boy worth 00100", 10);
        fault("boy kin 2 1000", 8);
        fault("boy kin 1 1000", 10);
        fault("list 6 256", 5);
        fault("list 5 256", 7);
        fault("damp 10;boy kin 9 9", 5);
    }

    @Says(promise = 0, value = FAULT)
    void anotherWord() {
        fault("bo", 0);
        fault("boys", 0);
        fault("perso", 0);
        fault("persons", 0);
        fault("dam 1", 0);
        fault("damps 1", 0);
        fault("lis 0 0", 0);
        fault("lists 0 0", 0);
        fault("worth 5", 0);
        fault("kin 0 1", 0);
        fault("boy wort 5", 4);
        fault("boy worths 5", 4);
        fault("boy ki 0 1", 4);
        fault("boy kins 0 1", 4);
        fault("boy worth 5 lord", 12);
        fault("boy kin 0 1 lord", 12);
        fault("boy list 0 0", 4);
        fault("list 0 0 damp", 9);
    }

    @Says(promise = 0, value = FAULT)
    void aWordThatIsOneLetterAnother() {
        String[] texts = {"person", "lord", "boy", "widow", "sunday", "starched", "heir", "list 0 0", "damp 0",
            "boy worth 5", "boy kin 0 1", "lord worth 5 kin 0 1"};
        for (String text : texts) {
            tells(text, 1);
            for (int at = 0; at < text.length(); at++) {
                if (isLetter(text.charAt(at))) {
                    char other = text.charAt(at) == 'z' ? 'a' : (char) (text.charAt(at) + 1);
                    int word = text.lastIndexOf(' ', at) + 1;
                    fault(text.substring(0, at) + other + text.substring(at + 1), word);
                }
            }
        }
    }

    @Says(promise = 0, value = FAULT)
    void aByteThatBeginsNoToken() {
        eachByte("", "", b -> b == ' ' ? -2 : -1);
        fault("boy?", 3);
        fault("boy ?", 4);
        fault("boy worth?", 9);
        fault("boy worth ?5", 10);
        fault("boy worth 5?", 11);
        fault("boy kin 0,1", 9);
        fault("boy kin 0 1.", 11);
        fault("list 0-0", 6);
        fault("damp +1", 5);
        fault("damp 1\0", 6);
        fault("damp 1;" + (char) 255, 7);
        fault("damp 1;" + (char) 128, 7);
        fault("BOY", 0);
        fault("boY", 0);
    }

    @Says(promise = 0, value = FAULT)
    void theWordOfA9thOne() {
        MangleKin x = with(0, 0, 0, 0, 0, 0, 0);
        due("the 8th", tell(x, "boy worth 1 kin 6 1"), 1);
        for (String kind : KINDS) {
            due("a 9th, " + kind, tell(x, kind), -1);
            due("its own WORD, not what it is told of it", tell(x, "damp 1; " + kind + " worth 500"), -9);
        }
        due("another WORD is one as before", tell(x, "boys"), -1);
        MangleKin y = with(0, 0, 0, 0, 0, 0, 0);
        due("an 8th and a 9th", tell(y, "boy;  lord"), -7);
        due("the 8th didn't come", y.count(1), 7);
        due("nine at once", tell(new MangleKin(), "boy;boy;boy;boy;boy;boy;boy;boy;boy"), -33);
        due("eight at once", tell(new MangleKin(), "boy;boy;boy;boy;boy;boy;boy;boy"), 8);
    }

    @Says(promise = 0, value = FAULT)
    void itEndsTooEarly() {
        fault("", 0);
        fault(" ", 1);
        fault("boy;", 4);
        fault("boy worth", 9);
        fault("boy worth  ", 11);
        fault("boy kin", 7);
        fault("boy kin 0", 9);
        fault("boy kin 0 ", 10);
        fault("list", 4);
        fault("list 0", 6);
        fault("damp", 4);
        fault(blanks(120), 120);
        fault("boy" + blanks(116) + ";", 120);
        fault("damp" + blanks(116), 120);
    }

    // ---- 32, 33: feed, wipe

    @Says(promise = 32, value = FEED)
    void theLowestBytesTheHighestFirst() {
        MangleKin x = new MangleKin();
        due("1", x.feed(0x626F7964, 1), 1);
        due("2", x.feed(0x626F616D, 2), 3);
        due("1 more", x.feed(0xFFFFFF70, 1), 4);
        due("it is damp", x.text(), -5);
        due("3", x.feed(0xFF646162, 3), 3);
        due("it is dab", x.text(), -1);
        due("4", x.feed(0x64616D70, 4), 4);
        due("behind it", x.feed(0x37, 1), 5);
        due("it is damp7", x.text(), 1);
        due("damp", x.now(4), 7);
        due("a number below 0", x.feed(-1, 4), 4);
        due("byte 255 begins no TOKEN", x.text(), -1);
        due("3 of 4", x.feed(0x3F626F79, 3), 3);
        due("they are boy", x.text(), 1);
    }

    @Says(promise = 32, value = FEED)
    void upTo120() {
        for (int n = 1; n <= 4; n++) {
            MangleKin x = new MangleKin();
            for (int had = n; had <= 120; had += n) {
                due(n + " a time", x.feed(0, n), had);
            }
            due("it has 120", x.count(5), 120);
        }
    }

    @Says(promise = 32, value = "BEYOND: n.")
    void feedBeyond() {
        MangleKin x = new MangleKin();
        for (int n : new int[] {0, -1, 5, LEAST, MOST}) {
            beyond("n " + n, x.feed(0x20202020, n));
        }
        due("it has none", x.count(5), 0);
    }

    @Says(promise = 32, value = "FULL.")
    void feedFull() {
        for (int n = 1; n <= 4; n++) {
            MangleKin x = new MangleKin();
            for (int k = 0; k < 29; k++) {
                x.feed(0x20202020, 4);
            }
            for (int k = 116; k < 121 - n; k++) {
                x.feed(0x20, 1);
            }
            due(n + " are 1 too many", x.feed(0x61616161, n), FULL);
            due("none of them came", x.count(5), 121 - n);
            due("FULL is counted", x.status(1), 1);
            due("all that it has is blanks", x.text(), -1 - (121 - n));
        }
    }

    @Says(promise = 33, value = "THE TAPE is empty: how many it had.")
    void wipe() {
        MangleKin x = new MangleKin();
        due("none", x.wipe(), 0);
        due("fed", Due.feedAll(x, blanks(120)), 120);
        due("120", x.wipe(), 120);
        due("it is empty", x.count(5), 0);
        due("again", x.wipe(), 0);
        due("there is room", x.feed(0x626F79, 3), 3);
        due("3", x.wipe(), 3);
        due("nothing of it is read", x.text(), -1);
        due("nobody came", x.count(1), 0);
    }

    // ---- 34: text

    @Says(promise = 34, value = READ)
    void allThatItTellsIsSo() {
        MangleKin x = new MangleKin();
        due("5 items", tell(x, "person;heir worth 99 kin 0 999;list 0 255;list 5 1;damp 0"), 5);
        due("empty then", x.count(5), 0);
        due("people", x.count(1), 2);
        due("kind", x.of(1, 0), 6);
        due("worth", x.of(1, 1), 99);
        due("kin", x.kin(0, 1), 999);
        due("place 0", x.listed(0), 255);
        due("place 5", x.listed(5), 1);
        due("damp", x.now(4), 0);
        due("an empty one isn't a TEXT", x.text(), -1);
    }

    @Says(promise = 34, value = READ)
    void itemByItem() {
        MangleKin x = with(0);
        due("the later counts", tell(x, "damp 1;damp 2;list 3 7;list 3 8"), 4);
        due("damp", x.now(4), 2);
        due("place 3", x.listed(3), 8);
        due("each is there for the next", tell(x, "boy kin 0 1;lord kin 1 2;heir kin 2 3"), 3);
        due("KIN of 0 and 1", x.kin(0, 1), 1);
        due("KIN of 1 and 2", x.kin(1, 2), 2);
        due("KIN of 2 and 3", x.kin(2, 3), 3);
        due("no others", x.now(1), 6);
    }

    @Says(promise = 34, value = READ)
    void allElseStays() {
        MangleKin x = with(0, 0);
        x.list(0, 3);
        x.go(1);
        x.seed(77);
        x.hold(9, 1);
        x.sheet(0, 8, 1);
        due("a TEXT", tell(x, "boy"), 1);
        due("TURN", x.now(0), 1);
        due("who is kept", x.now(3), 1);
        due("KIN", x.now(1), 7);
        due("z", x.count(6), 77);
        due("spots", x.as(9, 0), 1);
        due("sheets", x.load(0), 1);
        due("no image is kept", x.tear(), 0);
    }

    @Says(promise = 34, value = UNREAD)
    void minus1LessTheFault() {
        due("FAULT 0", tell(new MangleKin(), "?"), -1);
        due("FAULT 0, empty", new MangleKin().text(), -1);
        due("FAULT 119", tell(new MangleKin(), blanks(119) + "?"), -120);
        due("FAULT 120", tell(new MangleKin(), blanks(120)), -121);
    }

    @Says(promise = 34, value = UNREAD)
    void nothingChangesButTheTape() {
        MangleKin x = with(0, 0);
        x.list(0, 3);
        x.make(0, 1, 5);
        String[] faults = {"damp 9;?", "list 0 0;?", "boy worth 9 kin 0 9;?", "boy worth 9?", "boy kin 0 9?",
            "damp 9;"};
        for (String text : faults) {
            due(text, tell(x, text), text.endsWith("?") ? -text.length() : -1 - text.length());
            due("THE TAPE", x.count(5), 0);
            due("damp", x.now(4), 3);
            due("place 0", x.listed(0), 3);
            due("people", x.count(1), 2);
            due("KIN", x.now(1), 5);
        }
        due("who comes then is new", x.person(1), 2);
        due("of worth 4", x.of(2, 1), 4);
        due("of no KIN", x.of(2, 4), 0);
    }

    @Says(promise = 34, value = UNREAD)
    void aFaultIsNoFinding() {
        MangleKin x = new MangleKin();
        tell(x, "?");
        tell(x, "damp 10");
        x.text();
        for (int which = -1; which <= 6; which++) {
            due("status(" + which + ")", x.status(which), 0);
        }
    }
}
