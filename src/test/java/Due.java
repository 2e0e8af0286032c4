/** Counts and prints the calls whose answer is not the one that is due. */
final class Due {
    static final int LOW = -1000001;
    static final int BEYOND = LOW;
    static final int FULL = LOW - 1;
    static final int KIND = LOW - 2;
    static final int NONE = LOW - 3;
    static final int STATE = LOW - 4;
    static final int MISSING = LOW - 5;
    static final int SIZE = LOW - 6;

    private int asked;
    private int wrong;

    void due(String call, long got, long want) {
        asked++;
        if (got != want) {
            wrong++;
            System.out.println(call + " answered " + got + ", due is " + want);
        }
    }

    void so(String what, boolean holds) {
        due(what, holds ? 1 : 0, 1);
    }

    int asked() { return asked; }

    /** Ends the test, with exit code 1 if an answer was wrong. */
    void end(String name) {
        System.out.println(name + ": " + asked + " asked, " + wrong + " wrong");
        if (wrong != 0 || asked == 0) {
            System.exit(1);
        }
    }

    /** Puts a text on the tape, as many bytes a call as can be. */
    static int feedAll(MangleKin x, String text) {
        int had = 0;
        for (int at = 0; at < text.length(); at += 4) {
            int n = Math.min(4, text.length() - at);
            int bytes = 0;
            for (int k = 0; k < n; k++) {
                bytes = bytes << 8 | text.charAt(at + k) & 255;
            }
            had = x.feed(bytes, n);
        }
        return had;
    }

    static int tell(MangleKin x, String text) {
        feedAll(x, text);
        return x.text();
    }

    /** An object with people of these kinds, each of worth 4. */
    static MangleKin with(int... kinds) {
        MangleKin x = new MangleKin();
        for (int kind : kinds) {
            x.person(kind);
        }
        return x;
    }

    static void fill(MangleKin x, int s, int bits, int... numbers) {
        x.sheet(s, bits, numbers.length);
        for (int i = 0; i < numbers.length; i++) {
            x.write(s, i, numbers[i]);
        }
    }
}
