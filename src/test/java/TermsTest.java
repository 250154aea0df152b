/** Promises 8 to 10: the tokens of the two terms. */
public final class TermsTest {
    private static final int[] NO_SIDE = {-1, 2, 3, Integer.MIN_VALUE, Integer.MAX_VALUE};
    private static final int[] NO_TOKEN = {-1, 8, 9, Integer.MIN_VALUE, Integer.MAX_VALUE};

    public static void main(String[] args) {
        oneToken();
        everyShapeGrows();
        nineTokensWhole();
        nineTokensNotWhole();
        completeRefuses();
        backUndoes();
        sidesAreApart();
        wrongInputs();
        Check.end();
    }

    /** Feeds the tokens; the term may be complete behind the last one only. */
    private static void feedAll(SortedSolver x, int side, int[] tokens, boolean whole) {
        for (int i = 0; i < tokens.length; i++) {
            Check.due("complete before token " + i, x.complete(side), false);
            Check.due("feed(" + side + ", " + tokens[i] + ")", x.feed(side, tokens[i]), i + 1);
        }
        Check.due("complete after " + tokens.length, x.complete(side), whole);
    }

    private static void takeAll(SortedSolver x, int side, int[] tokens) {
        for (int i = tokens.length - 1; i >= 0; i--) {
            Check.due("back(" + side + ") of token " + i, x.back(side), tokens[i]);
            Check.due("complete after back", x.complete(side), false);
        }
        Check.due("back(" + side + ") without tokens", x.back(side), -1);
    }

    private static void oneToken() {
        for (int side = 0; side < 2; side++) {
            SortedSolver x = new SortedSolver();
            Check.due("complete without tokens", x.complete(side), false);
            for (int token = 0; token < 8; token++) {
                int[] term = {token};
                feedAll(x, side, term, token >= 2);
                takeAll(x, side, term);
            }
        }
    }

    private static void everyShapeGrows() {
        int[][] terms = {
            {0, 2}, {0, 0, 7}, {1, 2, 3}, {1, 5, 0, 6}, {1, 0, 5, 4},
            {1, 1, 2, 3, 4}, {1, 2, 1, 3, 4}, {1, 0, 1, 5, 6, 0, 7},
            {0, 1, 1, 0, 2, 3, 1, 4, 5}
        };
        for (int side = 0; side < 2; side++) {
            SortedSolver x = new SortedSolver();
            for (int[] term : terms) {
                feedAll(x, side, term, true);
                Check.due("feed to a complete term", x.feed(side, 2), -1);
                takeAll(x, side, term);
            }
        }
    }

    private static void nineTokensWhole() {
        int[][] terms = {
            {0, 0, 0, 0, 0, 0, 0, 0, 2},
            {1, 1, 1, 1, 5, 6, 7, 2, 3},
            {1, 5, 1, 6, 1, 7, 1, 2, 3}
        };
        for (int side = 0; side < 2; side++) {
            SortedSolver x = new SortedSolver();
            for (int[] term : terms) {
                feedAll(x, side, term, true);
                Check.due("feed to nine tokens", x.feed(side, 0), -1);
                Check.due("still complete", x.complete(side), true);
                takeAll(x, side, term);
            }
        }
    }

    private static void nineTokensNotWhole() {
        int[][] terms = {
            {0, 0, 0, 0, 0, 0, 0, 0, 0},
            {1, 1, 1, 1, 1, 1, 1, 1, 1},
            {1, 1, 1, 1, 5, 6, 7, 2, 0},
            {1, 1, 1, 1, 1, 5, 6, 7, 2}
        };
        for (int side = 0; side < 2; side++) {
            SortedSolver x = new SortedSolver();
            for (int[] term : terms) {
                feedAll(x, side, term, false);
                for (int token = 0; token < 8; token++) {
                    Check.due("tenth token " + token, x.feed(side, token), -1);
                }
                Check.due("still not complete", x.complete(side), false);
                takeAll(x, side, term);
            }
        }
    }

    private static void completeRefuses() {
        for (int side = 0; side < 2; side++) {
            SortedSolver x = new SortedSolver();
            int[] term = {1, 2, 7};
            feedAll(x, side, term, true);
            for (int token = 0; token < 8; token++) {
                Check.due("feed(" + side + ", " + token + ")", x.feed(side, token), -1);
            }
            Check.due("still complete", x.complete(side), true);
            takeAll(x, side, term);
        }
    }

    private static void backUndoes() {
        SortedSolver x = new SortedSolver();
        x.feed(0, 1);
        x.feed(0, 3);
        x.feed(0, 4);
        Check.due("back", x.back(0), 4);
        Check.due("feed after back", x.feed(0, 0), 3);
        Check.due("not complete", x.complete(0), false);
        Check.due("feed once more", x.feed(0, 6), 4);
        Check.due("complete", x.complete(0), true);
        takeAll(x, 0, new int[] {1, 3, 0, 6});
        Check.due("back again", x.back(0), -1);
        Check.due("feed after an empty back", x.feed(0, 2), 1);
    }

    private static void sidesAreApart() {
        SortedSolver x = new SortedSolver();
        int[] left = {1, 1, 1, 1, 5, 6, 7, 2, 0};
        int[] right = {0, 0, 0, 0, 0, 0, 0, 0, 4};
        for (int i = 0; i < 9; i++) {
            Check.due("feed left", x.feed(0, left[i]), i + 1);
            Check.due("feed right", x.feed(1, right[i]), i + 1);
        }
        Check.due("complete(0)", x.complete(0), false);
        Check.due("complete(1)", x.complete(1), true);
        takeAll(x, 0, left);
        Check.due("complete(1)", x.complete(1), true);
        takeAll(x, 1, right);
    }

    private static void wrongInputs() {
        SortedSolver x = new SortedSolver();
        x.feed(0, 1);
        x.feed(0, 5);
        x.feed(1, 0);
        for (int wrong : NO_SIDE) {
            Check.due("feed(" + wrong + ", 2)", x.feed(wrong, 2), -1);
            Check.due("back(" + wrong + ")", x.back(wrong), -1);
            Check.due("complete(" + wrong + ")", x.complete(wrong), false);
        }
        for (int wrong : NO_TOKEN) {
            Check.due("feed(0, " + wrong + ")", x.feed(0, wrong), -1);
            Check.due("feed(1, " + wrong + ")", x.feed(1, wrong), -1);
            Check.due("feed(2, " + wrong + ")", x.feed(2, wrong), -1);
        }
        takeAll(x, 0, new int[] {1, 5});
        takeAll(x, 1, new int[] {0});
    }
}
