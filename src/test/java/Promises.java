/** What the tests of the promises share: the findings by name, and short words for what is asked. */
abstract class Promises {
    static final int BEYOND = Due.BEYOND;
    static final int FULL = Due.FULL;
    static final int KIND = Due.KIND;
    static final int NONE = Due.NONE;
    static final int STATE = Due.STATE;
    static final int MISSING = Due.MISSING;
    static final int SIZE = Due.SIZE;

    private final Due due = new Due();

    final void due(String call, long got, long want) { due.due(call, got, want); }

    final void beyond(String call, long got) { due.due(call, got, BEYOND); }

    final void end() { due.end(getClass().getSimpleName()); }

    static MangleKin with(int... kinds) { return Due.with(kinds); }

    static int tell(MangleKin x, String text) { return Due.tell(x, text); }

    static void fill(MangleKin x, int s, int bits, int... numbers) { Due.fill(x, s, bits, numbers); }
}
