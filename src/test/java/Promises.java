/** What the tests of the promises share: the findings by name, and short words for what is asked. */
abstract class Promises {
    static final int BEYOND = Due.BEYOND;
    static final int FULL = Due.FULL;
    static final int KIND = Due.KIND;
    static final int NONE = Due.NONE;
    static final int STATE = Due.STATE;
    static final int MISSING = Due.MISSING;
    static final int SIZE = Due.SIZE;
    static final int LEAST = Integer.MIN_VALUE;
    static final int MOST = Integer.MAX_VALUE;

    private final Due due = new Due();

    /** What is told ahead of each call that is asked. */
    String told() { return ""; }

    final void due(String call, long got, long want) { due.due(told() + call, got, want); }

    final void beyond(String call, long got) { due(call, got, BEYOND); }

    final void so(String what, boolean holds) { due(what, holds ? 1 : 0, 1); }

    final int asked() { return due.asked(); }

    final void end() { due.end(getClass().getSimpleName()); }

    static MangleKin with(int... kinds) { return Due.with(kinds); }

    static int tell(MangleKin x, String text) { return Due.tell(x, text); }

    static void fill(MangleKin x, int s, int bits, int... numbers) { Due.fill(x, s, bits, numbers); }
}
