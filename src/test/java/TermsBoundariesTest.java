/**
 * Promises 8 to 10, and what the section 'Terms' says of tokens: a test for each
 * sentence that names a boundary case, on both sides. What is refused for arguments
 * outside their range, and that a refused call changes nothing, is in RefusedCallsTest.
 */
public final class TermsBoundariesTest {
    private static final int[] NINE_OPEN = {1, 1, 1, 1, 5, 6, 7, 2, 0};
    private static final int[] NINE_WHOLE = {1, 1, 1, 1, 5, 6, 7, 2, 3};

    public static void main(String[] args) {
        for (int side = 0; side < 2; side++) {
            fIsFollowedByATerm(side);
            gIsFollowedByTwoTerms(side);
            constantsAndVariablesAreTerms(side);
            feedFirstAndLastToken(side);
            feedCountsFromOneToNine(side);
            feedTenthToken(side);
            feedBehindCompleteTerm(side);
            feedNinthTokenCompletes(side);
            feedAfterBackFromNine(side);
            feedAfterBackFromComplete(side);
            feedOnOneSideOnly(side);
            backWithoutTokens(side);
            backAnswersEveryToken(side);
            backFromNineTokens(side);
            backAfterRefusedFeed(side);
            completeWithoutTokens(side);
            completeOneTermMissing(side);
            completeNoMoreAfterBack(side);
            completeWithNineTokens(side);
            completeOnOneSideOnly(side);
        }
        feedWrongSideOrToken();
        backWrongSide();
        completeWrongSide();
        Check.end();
    }

    private static void feedAll(SortedSolver x, int side, int... tokens) {
        for (int i = 0; i < tokens.length; i++) {
            String call = "feed(" + side + ", " + tokens[i] + ")";
            Check.due(call, x.feed(side, tokens[i]), i + 1);
        }
    }

    private static void dueTokens(String when, SortedSolver x, int side, int... tokens) {
        for (int i = tokens.length - 1; i >= 0; i--) {
            Check.due(when + ": back(" + side + ")", x.back(side), tokens[i]);
        }
        Check.due(when + ": back(" + side + "), no tokens", x.back(side), -1);
    }

    private static void dueComplete(int side, boolean want, int... tokens) {
        SortedSolver x = new SortedSolver();
        feedAll(x, side, tokens);
        Check.due("complete(" + side + ") with " + tokens.length, x.complete(side), want);
    }

    /** "0 is f, followed by a term" */
    private static void fIsFollowedByATerm(int side) {
        dueComplete(side, false, 0);
        dueComplete(side, true, 0, 2);
        dueComplete(side, true, 0, 7);
        dueComplete(side, false, 0, 0);
        dueComplete(side, true, 0, 0, 4);
        dueComplete(side, false, 0, 1);
        dueComplete(side, false, 0, 1, 5);
        dueComplete(side, true, 0, 1, 5, 6);
    }

    /** "1 is g, followed by two terms" */
    private static void gIsFollowedByTwoTerms(int side) {
        dueComplete(side, false, 1);
        dueComplete(side, false, 1, 2);
        dueComplete(side, true, 1, 2, 7);
        dueComplete(side, false, 1, 0, 2);
        dueComplete(side, true, 1, 0, 2, 3);
        dueComplete(side, false, 1, 2, 0);
        dueComplete(side, true, 1, 2, 0, 3);
        dueComplete(side, false, 1, 1, 2, 3);
        dueComplete(side, true, 1, 1, 2, 3, 4);
        dueComplete(side, false, 1, 2, 1, 3);
        dueComplete(side, true, 1, 2, 1, 3, 4);
    }

    /** "2 + c is constant c; 5 + v is variable v": each is one whole term. */
    private static void constantsAndVariablesAreTerms(int side) {
        for (int token = 2; token < 8; token++) {
            dueComplete(side, true, token);
        }
    }

    /** Tokens 0 and 7 are tokens. */
    private static void feedFirstAndLastToken(int side) {
        SortedSolver x = new SortedSolver();
        feedAll(x, side, 0, 7);
        dueTokens("fed 0 and 7", x, side, 0, 7);
    }

    /** "Answers the number of its tokens now" */
    private static void feedCountsFromOneToNine(int side) {
        SortedSolver x = new SortedSolver();
        feedAll(x, side, NINE_OPEN);
        dueTokens("fed nine", x, side, NINE_OPEN);
    }

    /** "a list of at most nine tokens"; "NONE .. when .. it has nine tokens" */
    private static void feedTenthToken(int side) {
        SortedSolver x = new SortedSolver();
        feedAll(x, side, NINE_OPEN);
        for (int token = 0; token < 8; token++) {
            Check.due("tenth token " + token, x.feed(side, token), -1);
        }
        dueTokens("after a tenth token", x, side, NINE_OPEN);
    }

    /** "NONE .. when .. the term is complete", also with room for more tokens. */
    private static void feedBehindCompleteTerm(int side) {
        int[][] whole = {{2}, {7}, {0, 5}, {1, 3, 4}, {0, 0, 0, 0, 0, 0, 0, 2}};
        for (int[] term : whole) {
            SortedSolver x = new SortedSolver();
            feedAll(x, side, term);
            for (int token = 0; token < 8; token++) {
                Check.due("token " + token + " behind a term", x.feed(side, token), -1);
            }
            Check.due("still complete", x.complete(side), true);
            dueTokens("after a token behind the term", x, side, term);
        }
    }

    /** The ninth token is taken, and what is complete with it is refused the tenth. */
    private static void feedNinthTokenCompletes(int side) {
        SortedSolver x = new SortedSolver();
        feedAll(x, side, NINE_WHOLE);
        Check.due("complete with the ninth", x.complete(side), true);
        Check.due("tenth token", x.feed(side, 2), -1);
        dueTokens("nine, complete", x, side, NINE_WHOLE);
    }

    /** With eight tokens again there is room for one, and for one only. */
    private static void feedAfterBackFromNine(int side) {
        SortedSolver x = new SortedSolver();
        feedAll(x, side, NINE_OPEN);
        x.feed(side, 2);
        Check.due("back from nine", x.back(side), 0);
        Check.due("ninth token again", x.feed(side, 1), 9);
        Check.due("tenth token again", x.feed(side, 1), -1);
        dueTokens("nine again", x, side, 1, 1, 1, 1, 5, 6, 7, 2, 1);
    }

    /** A term that is no more complete takes tokens again. */
    private static void feedAfterBackFromComplete(int side) {
        SortedSolver x = new SortedSolver();
        feedAll(x, side, 1, 2, 3);
        Check.due("feed to a complete term", x.feed(side, 0), -1);
        Check.due("back from complete", x.back(side), 3);
        Check.due("feed after back", x.feed(side, 0), 3);
        Check.due("feed once more", x.feed(side, 4), 4);
        Check.due("feed to a complete term again", x.feed(side, 4), -1);
        dueTokens("complete again", x, side, 1, 2, 0, 4);
    }

    /** One term that is complete, or has nine tokens, does not stop the other one. */
    private static void feedOnOneSideOnly(int side) {
        int other = 1 - side;
        SortedSolver x = new SortedSolver();
        feedAll(x, other, 2);
        feedAll(x, side, NINE_OPEN);
        dueTokens("the other one complete", x, other, 2);
        feedAll(x, other, 0, 0, 0, 0, 0, 0, 0, 0, 6);
        dueTokens("both with nine", x, side, NINE_OPEN);
        dueTokens("the other one still", x, other, 0, 0, 0, 0, 0, 0, 0, 0, 6);
    }

    /** "NONE when .. the term has no tokens": never fed, or all taken away. */
    private static void backWithoutTokens(int side) {
        SortedSolver x = new SortedSolver();
        for (int time = 0; time < 3; time++) {
            Check.due("back of a new object", x.back(side), -1);
        }
        feedAll(x, side, 1);
        feedAll(x, 1 - side, 0, 2);
        Check.due("back of the only token", x.back(side), 1);
        for (int time = 0; time < 3; time++) {
            Check.due("back, all taken away", x.back(side), -1);
        }
        feedAll(x, side, 0, 3);
        dueTokens("fed after back without tokens", x, side, 0, 3);
        dueTokens("the other term", x, 1 - side, 0, 2);
    }

    /** "Takes the last token of a term away and answers it": 0 is a token, not nothing. */
    private static void backAnswersEveryToken(int side) {
        SortedSolver x = new SortedSolver();
        for (int token = 0; token < 8; token++) {
            Check.due("feed(" + side + ", " + token + ")", x.feed(side, token), 1);
            Check.due("back(" + side + ") of " + token, x.back(side), token);
        }
        Check.due("back, no tokens", x.back(side), -1);
    }

    /** All nine tokens come back, the last one first. */
    private static void backFromNineTokens(int side) {
        int[] term = {1, 0, 1, 2, 1, 7, 0, 3, 6};
        SortedSolver x = new SortedSolver();
        feedAll(x, side, term);
        dueTokens("nine tokens", x, side, term);
    }

    /** A refused token does not come back. */
    private static void backAfterRefusedFeed(int side) {
        SortedSolver x = new SortedSolver();
        feedAll(x, side, 1, 4);
        Check.due("feed(" + side + ", 8)", x.feed(side, 8), -1);
        Check.due("feed(" + side + ", -1)", x.feed(side, -1), -1);
        Check.due("back", x.back(side), 4);
        feedAll(x, 1 - side, 3);
        Check.due("feed to a complete term", x.feed(1 - side, 6), -1);
        Check.due("back of the complete term", x.back(1 - side), 3);
        dueTokens("after refused tokens", x, side, 1);
    }

    /** A term without tokens is not one whole term. */
    private static void completeWithoutTokens(int side) {
        SortedSolver x = new SortedSolver();
        Check.due("new: complete(" + side + ")", x.complete(side), false);
        feedAll(x, side, 2);
        x.back(side);
        Check.due("all taken away: complete(" + side + ")", x.complete(side), false);
    }

    /** "A term is COMPLETE when its tokens are one whole term": not before the last one. */
    private static void completeOneTermMissing(int side) {
        int[][] whole = {
            {0, 0, 0, 0, 0, 0, 0, 0, 2}, {1, 2, 1, 3, 1, 4, 1, 5, 6}, NINE_WHOLE,
            {1, 0, 1, 2, 1, 7, 0, 3, 6}, {0, 1, 1, 2, 3, 1, 4, 5}
        };
        for (int[] term : whole) {
            SortedSolver x = new SortedSolver();
            for (int token : term) {
                Check.due("before the last token", x.complete(side), false);
                x.feed(side, token);
            }
            Check.due("with the last token", x.complete(side), true);
        }
    }

    private static void completeNoMoreAfterBack(int side) {
        SortedSolver x = new SortedSolver();
        feedAll(x, side, 1, 0, 5, 6);
        Check.due("complete", x.complete(side), true);
        x.back(side);
        Check.due("complete after back", x.complete(side), false);
        x.feed(side, 2);
        Check.due("complete with another token", x.complete(side), true);
    }

    /** Nine tokens alone do not make a term complete. */
    private static void completeWithNineTokens(int side) {
        dueComplete(side, true, NINE_WHOLE);
        dueComplete(side, false, NINE_OPEN);
        dueComplete(side, false, 0, 0, 0, 0, 0, 0, 0, 0, 0);
        dueComplete(side, false, 1, 1, 1, 1, 1, 1, 1, 1, 1);
        dueComplete(side, false, 1, 1, 1, 1, 1, 2, 3, 4, 5);
    }

    private static void completeOnOneSideOnly(int side) {
        SortedSolver x = new SortedSolver();
        feedAll(x, side, 5);
        Check.due("this side", x.complete(side), true);
        Check.due("the other side", x.complete(1 - side), false);
    }

    /** "NONE .. when side is not 0 or 1, token is not 0 .. 7": also where there is room. */
    private static void feedWrongSideOrToken() {
        for (int wrong : Outside.of(2)) {
            SortedSolver x = new SortedSolver();
            Check.due("feed(" + wrong + ", 2)", x.feed(wrong, 2), -1);
            dueTokens("after side " + wrong, x, 0);
            dueTokens("after side " + wrong, x, 1);
        }
        for (int wrong : Outside.of(8)) {
            for (int side = 0; side < 2; side++) {
                SortedSolver x = new SortedSolver();
                Check.due("feed(" + side + ", " + wrong + ")", x.feed(side, wrong), -1);
                dueTokens("after token " + wrong, x, side);
            }
        }
    }

    /** "NONE when side is not 0 or 1": also where both terms have tokens. */
    private static void backWrongSide() {
        SortedSolver x = new SortedSolver();
        feedAll(x, 0, 0, 3);
        feedAll(x, 1, 1, 4);
        for (int wrong : Outside.of(2)) {
            Check.due("back(" + wrong + ")", x.back(wrong), -1);
        }
        dueTokens("after wrong sides", x, 0, 0, 3);
        dueTokens("after wrong sides", x, 1, 1, 4);
    }

    /** "false when side is not 0 or 1": also where both terms are complete. */
    private static void completeWrongSide() {
        SortedSolver x = new SortedSolver();
        feedAll(x, 0, 2);
        feedAll(x, 1, 2);
        for (int wrong : Outside.of(2)) {
            Check.due("complete(" + wrong + ")", x.complete(wrong), false);
        }
    }
}
