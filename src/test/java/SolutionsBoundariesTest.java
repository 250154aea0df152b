/**
 * Promises 12 to 16, and what the section 'Terms' says of solutions: a test for each
 * sentence that names a boundary case. That a call with arguments outside their range
 * changes nothing is in RefusedCallsTest.
 */
public final class SolutionsBoundariesTest {
    private static final int[] NO_VARIABLE = Outside.of(3);
    private static final int[] NO_THING = Outside.of(15);

    public static void main(String[] args) {
        termsWithoutTokens();
        leftTermNotComplete();
        rightTermNotComplete();
        sameTokensNotComplete();
        nineTokensNotComplete();
        notCompleteAnyMore();
        noThingForAVariable();
        noThingForAVariableThatDoesNotOccur();
        thingMayHaveTheSortFromBelow();
        everyVariableCountsWhetherItOccursOrNot();
        termsMayBecomeLargerThanThings();
        longestTermsThatMayCome();
        sortsOfWhatTheTermsBecomeDoNotMatter();
        neverTheSame();
        greatestNumberOfSolutions();
        oneSolution();
        leastThingsAlone();
        greatestThingsAlone();
        firstOfAll();
        firstInDictionaryOrder();
        firstWrongVariable();
        valuesEdgeBits();
        valuesWrongVariable();
        solutionsWithEdgeThings();
        solutionsWithThingThatNoSolutionGives();
        solutionsWithWrongArguments();
        solutionsAlikeForOneVariable();
        solutionsAlikeNever();
        solutionsAlikeBothWays();
        solutionsAlikeWrongArguments();
        lastPromisedCall();
        Check.end();
    }

    private static void dueFirst(String when, SortedSolver x, int a, int b, int c) {
        Check.due(when + ": first(0)", x.first(0), a);
        Check.due(when + ": first(1)", x.first(1), b);
        Check.due(when + ": first(2)", x.first(2), c);
    }

    private static void dueValues(String when, SortedSolver x, int a, int b, int c) {
        Check.due(when + ": values(0)", x.values(0), a);
        Check.due(when + ": values(1)", x.values(1), b);
        Check.due(when + ": values(2)", x.values(2), c);
    }

    /** What all five calls answer when there is no solution. */
    private static void dueNothing(String when, SortedSolver x) {
        Check.due(when + ": solutions", x.solutions(), 0);
        for (int v = 0; v < 3; v++) {
            Check.due(when + ": first(" + v + ")", x.first(v), -1);
            Check.due(when + ": values(" + v + ")", x.values(v), 0);
            for (int t = 0; t < 15; t++) {
                String call = "solutionsWith(" + v + ", " + t + ")";
                Check.due(when + ": " + call, x.solutionsWith(v, t), 0);
            }
            for (int w = 0; w < 3; w++) {
                String call = "solutionsAlike(" + v + ", " + w + ")";
                Check.due(when + ": " + call, x.solutionsAlike(v, w), 0);
            }
        }
    }

    private static SortedSolver equation(int[] left, int[] right) {
        SortedSolver x = Worlds.full();
        Worlds.put(x, 0, left);
        Worlds.put(x, 1, right);
        return x;
    }

    private static int[] term(int... tokens) {
        return tokens;
    }

    /** Every assignment of all fifteen things solves it. */
    private static SortedSolver everythingSolves() {
        return equation(term(2), term(2));
    }

    /** "When a term is not complete, there are no solutions": both without tokens. */
    private static void termsWithoutTokens() {
        dueNothing("new object", new SortedSolver());
        dueNothing("no tokens", Worlds.full());
        dueNothing("right term without tokens", equation(term(5), term()));
        dueNothing("left term without tokens", equation(term(), term(5)));
    }

    /** "When a term is not complete, there are no solutions" */
    private static void leftTermNotComplete() {
        dueNothing("f .. = f(x)", equation(term(0), term(0, 5)));
        dueNothing("g(x, .. = g(x, y)", equation(term(1, 5), term(1, 5, 6)));
        dueNothing("f .. = x", equation(term(0), term(5)));
    }

    /** "When a term is not complete, there are no solutions" */
    private static void rightTermNotComplete() {
        dueNothing("f(x) = f ..", equation(term(0, 5), term(0)));
        dueNothing("g(x, y) = g(x, ..", equation(term(1, 5, 6), term(1, 5)));
        dueNothing("x = f ..", equation(term(5), term(0)));
    }

    private static void sameTokensNotComplete() {
        dueNothing("f .. = f ..", equation(term(0), term(0)));
        dueNothing("g(x, .. = g(x, ..", equation(term(1, 5), term(1, 5)));
    }

    private static void nineTokensNotComplete() {
        int[] open = {0, 0, 0, 0, 0, 0, 0, 0, 0};
        int[] whole = {0, 0, 0, 0, 0, 0, 0, 0, 5};
        dueNothing("nine tokens on both sides", equation(open, open));
        dueNothing("nine tokens on the left", equation(open, whole));
        dueNothing("nine tokens on the right", equation(whole, open));
    }

    /** What was solved before a token was taken away does not stay. */
    private static void notCompleteAnyMore() {
        for (int side = 0; side < 2; side++) {
            SortedSolver x = everythingSolves();
            Check.due("both complete: solutions", x.solutions(), 3375);
            x.back(side);
            dueNothing("token taken away on side " + side, x);
            x.feed(side, 2);
            Check.due("token given back: solutions", x.solutions(), 3375);
        }
    }

    /** "a thing that has the variable's sort": if there is none, there is no solution. */
    private static void noThingForAVariable() {
        for (int v = 0; v < 3; v++) {
            SortedSolver x = equation(term(5 + v), term(5 + v));
            x.variable(v, 3);
            dueNothing("variable " + v + " of sort 3, no thing has it", x);
        }
    }

    /** "every one of the three variables (whether it occurs or not)" */
    private static void noThingForAVariableThatDoesNotOccur() {
        for (int v = 0; v < 3; v++) {
            SortedSolver x = everythingSolves();
            x.variable(v, 1);
            dueNothing("0 = 0, variable " + v + " of sort 1", x);
            x.constant(2, 1);
            Check.due("0 = 0, constant 2 of sort 1: values", x.values(v), 4);
        }
    }

    /** A thing has a sort also when its own is below it; not when it is above. */
    private static void thingMayHaveTheSortFromBelow() {
        SortedSolver x = new SortedSolver();
        Worlds.put(x, 0, 2);
        Worlds.put(x, 1, 2);
        x.below(0, 1);
        x.variable(0, 1);
        x.constant(1, 1);
        Check.due("0 < 1: solutions", x.solutions(), 12);
        dueValues("0 < 1", x, 7, 5, 5);
    }

    /** "every one of the three variables (whether it occurs or not)": each multiplies. */
    private static void everyVariableCountsWhetherItOccursOrNot() {
        SortedSolver x = new SortedSolver();
        x.constant(1, 1);
        x.constant(2, 1);
        x.variable(2, 1);
        Worlds.put(x, 0, 2);
        Worlds.put(x, 1, 2);
        Check.due("no variable occurs: solutions", x.solutions(), 2);
        dueValues("no variable occurs", x, 1, 1, 6);
        Worlds.put(x, 0, 7);
        Worlds.put(x, 1, 7);
        Check.due("z occurs: solutions", x.solutions(), 2);
        Worlds.put(x, 1, 4);
        Check.due("z = 2: solutions", x.solutions(), 1);
        dueFirst("z = 2", x, 0, 0, 2);
    }

    /** "What the terms become may be larger than the things are" */
    private static void termsMayBecomeLargerThanThings() {
        SortedSolver x = equation(term(0, 5), term(0, 0, 6));
        Check.due("f(x) = f(f(y)): solutions", x.solutions(), 45);
        dueValues("f(x) = f(f(y))", x, 0x38, 7, Worlds.ALL_THINGS);
        SortedSolver y = equation(term(1, 5, 5), term(1, 6, 1, 3, 4));
        Check.due("g(x, x) = g(y, g(1, 2)): solutions", y.solutions(), 15);
        dueFirst("g(x, x) = g(y, g(1, 2))", y, 11, 11, 0);
        SortedSolver z = equation(term(0, 5), term(0, 0, 0, 2));
        dueNothing("f(x) = f(f(f(0))), x would be larger than a thing", z);
    }

    /** Nine tokens of which five are variables become nineteen; and eight times f. */
    private static void longestTermsThatMayCome() {
        int[] left = {1, 1, 1, 1, 5, 6, 7, 5, 6};
        int[] right = {1, 1, 1, 1, 7, 6, 5, 7, 6};
        SortedSolver x = equation(left, right);
        Check.due("x = z five times over: solutions", x.solutions(), 225);
        Check.due("x = z = g(2, 2): solutions", x.solutionsWith(0, 14), 15);
        Check.due("x = z: alike(0, 2)", x.solutionsAlike(0, 2), 225);
        int[] deep = {0, 0, 0, 0, 0, 0, 0, 0, 5};
        int[] flat = {0, 0, 0, 0, 0, 0, 0, 7};
        SortedSolver y = equation(deep, flat);
        Check.due("eight times f = seven times f: solutions", y.solutions(), 45);
        dueValues("eight times f = seven times f", y, 7, Worlds.ALL_THINGS, 0x38);
    }

    /** "and its sorts do not matter" */
    private static void sortsOfWhatTheTermsBecomeDoNotMatter() {
        SortedSolver x = new SortedSolver();
        Worlds.put(x, 0, 0, 5);
        Worlds.put(x, 1, 0, 3);
        Check.due("f(x) = f(1), f has no rank: solutions", x.solutions(), 9);
        Worlds.put(x, 0, 1, 5, 0, 2);
        Worlds.put(x, 1, 1, 4, 0, 6);
        Check.due("g(x, f(0)) = g(2, f(y)), no ranks: solutions", x.solutions(), 3);
        dueFirst("g(x, f(0)) = g(2, f(y)), no ranks", x, 2, 0, 0);
        x.constant(0, 3);
        Worlds.put(x, 0, 2);
        Worlds.put(x, 1, 2);
        Check.due("0 = 0, no variable may be 0: solutions", x.solutions(), 8);
    }

    /** "NONE when there is no solution", with both terms complete. */
    private static void neverTheSame() {
        dueNothing("0 = 1", equation(term(2), term(3)));
        dueNothing("0 = f(0)", equation(term(2), term(0, 2)));
        dueNothing("x = f(x)", equation(term(5), term(0, 5)));
        dueNothing("f(x) = g(y, z)", equation(term(0, 5), term(1, 6, 7)));
        dueNothing("g(x, y) = g(f(x), y)", equation(term(1, 5, 6), term(1, 0, 5, 6)));
        dueNothing("g(0, 1) = g(1, 0)", equation(term(1, 2, 3), term(1, 3, 2)));
        dueNothing("x = f(f(y))", equation(term(5), term(0, 0, 6)));
    }

    private static void greatestNumberOfSolutions() {
        SortedSolver x = everythingSolves();
        Check.due("0 = 0: solutions", x.solutions(), 3375);
        dueValues("0 = 0", x, Worlds.ALL_THINGS, Worlds.ALL_THINGS, Worlds.ALL_THINGS);
    }

    private static void oneSolution() {
        // x = 0, y = f(1), z = g(2, 2)
        int[] left = {1, 5, 1, 6, 7};
        int[] right = {1, 2, 1, 0, 3, 1, 4, 4};
        SortedSolver x = equation(left, right);
        Check.due("one solution: solutions", x.solutions(), 1);
        dueFirst("one solution", x, 0, 4, 14);
        dueValues("one solution", x, 1, 1 << 4, 1 << 14);
        Check.due("one solution: with(2, 14)", x.solutionsWith(2, 14), 1);
        Check.due("one solution: with(2, 13)", x.solutionsWith(2, 13), 0);
        Check.due("one solution: alike(1, 1)", x.solutionsAlike(1, 1), 1);
        Check.due("one solution: alike(0, 1)", x.solutionsAlike(0, 1), 0);
    }

    /** The one solution gives every variable the thing t. */
    private static void dueOneThing(String when, SortedSolver x, int t) {
        Check.due(when + ": solutions", x.solutions(), 1);
        dueFirst(when, x, t, t, t);
        dueValues(when, x, 1 << t, 1 << t, 1 << t);
        for (int v = 0; v < 3; v++) {
            Check.due(when + ": solutionsWith", x.solutionsWith(v, t), 1);
            Check.due(when + ": solutionsWith another", x.solutionsWith(v, 14 - t), 0);
            for (int w = 0; w < 3; w++) {
                Check.due(when + ": solutionsAlike", x.solutionsAlike(v, w), 1);
            }
        }
    }

    private static void leastThingsAlone() {
        SortedSolver x = new SortedSolver();
        x.constant(1, 1);
        x.constant(2, 1);
        Worlds.put(x, 0, 5);
        Worlds.put(x, 1, 5);
        dueOneThing("constant 0 alone", x, 0);
    }

    private static void greatestThingsAlone() {
        SortedSolver x = new SortedSolver();
        x.constant(2, 1);
        x.rankG(1, 1, 2, true);
        for (int v = 0; v < 3; v++) {
            x.variable(v, 2);
        }
        Worlds.put(x, 0, 5);
        Worlds.put(x, 1, 5);
        dueOneThing("g(2, 2) alone", x, 14);
    }

    private static void firstOfAll() {
        dueFirst("0 = 0", everythingSolves(), 0, 0, 0);
    }

    /** "things for the variables 0, 1, 2 .. in this order, are least in the dictionary order" */
    private static void firstInDictionaryOrder() {
        SortedSolver x = new SortedSolver();
        x.constant(1, 1);
        x.constant(2, 2);
        x.below(0, 3);
        x.below(1, 3);
        // g(0, 1) and g(1, 0) have the sort 2; x and y are 0 or 1.
        x.rankG(0, 1, 2, true);
        x.rankG(1, 0, 2, true);
        x.variable(0, 3);
        x.variable(1, 3);
        x.variable(2, 2);
        Worlds.put(x, 0, 7);
        Worlds.put(x, 1, 1, 6, 5);
        // Both (0, 1, g(1, 0)) and (1, 0, g(0, 1)) solve it: the lesser x, with the greater z.
        Check.due("z = g(y, x): solutions", x.solutions(), 2);
        dueFirst("z = g(y, x)", x, 0, 1, 9);
    }

    /** "NONE when .. v is not 0 .. 2": also where everything is a solution. */
    private static void firstWrongVariable() {
        SortedSolver x = everythingSolves();
        for (int wrong : NO_VARIABLE) {
            Check.due("first(" + wrong + ")", x.first(wrong), -1);
        }
    }

    /** "bit t for thing t", the first and the last one. */
    private static void valuesEdgeBits() {
        for (int v = 0; v < 3; v++) {
            SortedSolver x = equation(term(5 + v), term(2));
            Check.due("variable " + v + " = 0: values", x.values(v), 1);
            Worlds.put(x, 1, 1, 4, 4);
            Check.due("variable " + v + " = g(2, 2): values", x.values(v), 1 << 14);
        }
    }

    /** "0 when v is not 0 .. 2": also where everything is a solution. */
    private static void valuesWrongVariable() {
        SortedSolver x = everythingSolves();
        for (int wrong : NO_VARIABLE) {
            Check.due("values(" + wrong + ")", x.values(wrong), 0);
        }
    }

    /** Things 0 and 14 are things, for variables 0 and 2. */
    private static void solutionsWithEdgeThings() {
        SortedSolver x = everythingSolves();
        for (int v = 0; v < 3; v++) {
            Check.due("solutionsWith(" + v + ", 0)", x.solutionsWith(v, 0), 225);
            Check.due("solutionsWith(" + v + ", 14)", x.solutionsWith(v, 14), 225);
            Check.due("solutionsWith(" + v + ", -1)", x.solutionsWith(v, -1), 0);
            Check.due("solutionsWith(" + v + ", 15)", x.solutionsWith(v, 15), 0);
        }
    }

    private static void solutionsWithThingThatNoSolutionGives() {
        SortedSolver x = equation(term(5), term(0, 6));
        for (int t = 0; t < 15; t++) {
            boolean isF = t >= 3 && t < 6;
            Check.due("x = f(y): solutionsWith(0, " + t + ")", x.solutionsWith(0, t), isF ? 15 : 0);
            Check.due("x = f(y): solutionsWith(1, " + t + ")", x.solutionsWith(1, t), t < 3 ? 15 : 0);
            Check.due("x = f(y): solutionsWith(2, " + t + ")", x.solutionsWith(2, t), 3);
        }
    }

    /** "0 when v is not 0 .. 2 or t is not 0 .. 14": also where everything is a solution. */
    private static void solutionsWithWrongArguments() {
        for (int wrong : NO_VARIABLE) {
            SortedSolver x = everythingSolves();
            for (int t = 0; t < 15; t++) {
                String call = "solutionsWith(" + wrong + ", " + t + ")";
                Check.due(call, x.solutionsWith(wrong, t), 0);
            }
        }
        for (int wrong : NO_THING) {
            SortedSolver x = everythingSolves();
            for (int v = 0; v < 3; v++) {
                String call = "solutionsWith(" + v + ", " + wrong + ")";
                Check.due(call, x.solutionsWith(v, wrong), 0);
            }
            Check.due("solutionsWith(3, " + wrong + ")", x.solutionsWith(3, wrong), 0);
        }
    }

    /** "(For v = w: of all solutions.)" */
    private static void solutionsAlikeForOneVariable() {
        SortedSolver all = everythingSolves();
        SortedSolver some = equation(term(5), term(1, 6, 7));
        for (int v = 0; v < 3; v++) {
            String call = "solutionsAlike(" + v + ", " + v + ")";
            Check.due("0 = 0: " + call, all.solutionsAlike(v, v), 3375);
            Check.due("x = g(y, z): " + call, some.solutionsAlike(v, v), 9);
        }
    }

    /** Solutions, but none that gives two variables the same thing; and in all the same. */
    private static void solutionsAlikeNever() {
        SortedSolver x = equation(term(5), term(0, 6));
        Check.due("x = f(y): solutions", x.solutions(), 45);
        Check.due("x = f(y): alike(0, 1)", x.solutionsAlike(0, 1), 0);
        Worlds.put(x, 1, 6);
        Check.due("x = y: solutions", x.solutions(), 225);
        Check.due("x = y: alike(0, 1)", x.solutionsAlike(0, 1), 225);
    }

    private static void solutionsAlikeBothWays() {
        SortedSolver x = equation(term(5), term(1, 6, 7));
        int[][] want = {{9, 0, 0}, {0, 9, 3}, {0, 3, 9}};
        for (int v = 0; v < 3; v++) {
            for (int w = 0; w < 3; w++) {
                String call = "solutionsAlike(" + v + ", " + w + ")";
                Check.due("x = g(y, z): " + call, x.solutionsAlike(v, w), want[v][w]);
            }
        }
    }

    /** "0 when v or w is not 0 .. 2": also for v = w, and where everything is a solution. */
    private static void solutionsAlikeWrongArguments() {
        SortedSolver x = everythingSolves();
        for (int wrong : NO_VARIABLE) {
            for (int v = 0; v < 3; v++) {
                Check.due("solutionsAlike(" + v + ", " + wrong + ")", x.solutionsAlike(v, wrong), 0);
                Check.due("solutionsAlike(" + wrong + ", " + v + ")", x.solutionsAlike(wrong, v), 0);
            }
            Check.due("solutionsAlike(" + wrong + " twice)", x.solutionsAlike(wrong, wrong), 0);
        }
    }

    /** "An object is used for at most 512 calls": the 512th is answered like the others. */
    private static void lastPromisedCall() {
        SortedSolver x = new SortedSolver();
        int calls = 0;
        while (calls < 508) {
            Check.due("call " + (calls + 1) + ": feed", x.feed(0, 5), 1);
            Check.due("call " + (calls + 2) + ": back", x.back(0), 5);
            calls += 2;
        }
        Check.due("call 509: feed", x.feed(0, 5), 1);
        Check.due("call 510: feed", x.feed(1, 4), 1);
        Check.due("call 511: first", x.first(0), 2);
        Check.due("call 512: solutions", x.solutions(), 9);
    }
}
