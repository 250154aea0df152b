/** What several tests begin with. */
final class Worlds {
    static final int ALL_THINGS = 0x7FFF;

    private Worlds() {
    }

    /** Every thing has the sort 0, and so has every variable. */
    static SortedSolver full() {
        SortedSolver x = new SortedSolver();
        x.rankF(0, 0, true);
        x.rankG(0, 0, 0, true);
        return x;
    }

    /** Makes the tokens those of a term, whatever it was before. */
    static void put(SortedSolver x, int side, int... tokens) {
        for (int i = 0; i < 9; i++) {
            x.back(side);
        }
        for (int token : tokens) {
            x.feed(side, token);
        }
    }

    /** The tokens of the term that is a thing. */
    static int[] tokensOf(int thing) {
        if (thing < 3) {
            return new int[] {2 + thing};
        }
        if (thing < 6) {
            return new int[] {0, 2 + thing - 3};
        }
        return new int[] {1, 2 + (thing - 6) / 3, 2 + (thing - 6) % 3};
    }
}
