/** Promises 12 to 16: what is asked about the solutions, with answers worked out by hand. */
public final class SolutionsTest {
    private static final int[] NO_VARIABLE =
            {-1, 3, 4, 32, Integer.MIN_VALUE, Integer.MAX_VALUE};
    private static final int[] NO_THING =
            {-1, 15, 16, 32, Integer.MIN_VALUE, Integer.MAX_VALUE};

    public static void main(String[] args) {
        noSolutionUntilBothComplete();
        everyAssignmentSolves();
        variableEqualsThing();
        variableEqualsVariable();
        functionAgainstVariable();
        largerThanThings();
        longestTerms();
        resultsNeedNoSort();
        sameTokensInAnotherShape();
        variablesThatDoNotOccurNeedAThing();
        firstIsLeastInDictionaryOrder();
        firstVariableCountsFirst();
        wrongInputs();
        askingChangesNothing();
        Check.end();
    }

    private static void dueFirst(String when, SortedSolver x, int a, int b, int c) {
        Check.due(when + ": first(0)", x.first(0), a);
        Check.due(when + ": first(1)", x.first(1), b);
        Check.due(when + ": first(2)", x.first(2), c);
    }

    private static void dueValues(String when, SortedSolver x, int a, int b, int c) {
        Check.due(when + ": values(0)", x.values(0), a);
        Check.due(when + ": values(1)", x.values(1), b);
        Check.due(when + ": values(2)", x.values(2), c);
    }

    private static void dueNothing(String when, SortedSolver x) {
        Check.due(when + ": solutions", x.solutions(), 0);
        dueFirst(when, x, -1, -1, -1);
        dueValues(when, x, 0, 0, 0);
        for (int v = 0; v < 3; v++) {
            Check.due(when + ": solutionsWith", x.solutionsWith(v, 0), 0);
            Check.due(when + ": solutionsAlike", x.solutionsAlike(v, v), 0);
            Check.due(when + ": solutionsAlike", x.solutionsAlike(v, (v + 1) % 3), 0);
        }
    }

    private static void noSolutionUntilBothComplete() {
        SortedSolver x = Worlds.full();
        dueNothing("no tokens", x);
        Worlds.put(x, 0, 1, 5);
        Worlds.put(x, 1, 1, 5);
        dueNothing("the same tokens, not complete", x);
        Worlds.put(x, 0, 1, 5, 6);
        dueNothing("left complete", x);
        Worlds.put(x, 0, 1, 5);
        Worlds.put(x, 1, 1, 5, 6);
        dueNothing("right complete", x);
        Worlds.put(x, 0, 1, 5, 6);
        Check.due("both complete", x.solutions(), 3375);
        x.back(0);
        dueNothing("left no more complete", x);
    }

    private static void everyAssignmentSolves() {
        SortedSolver x = Worlds.full();
        Worlds.put(x, 0, 3);
        Worlds.put(x, 1, 3);
        Check.due("1 = 1: solutions", x.solutions(), 3375);
        dueFirst("1 = 1", x, 0, 0, 0);
        dueValues("1 = 1", x, 0x7FFF, 0x7FFF, 0x7FFF);
        for (int v = 0; v < 3; v++) {
            for (int t = 0; t < 15; t++) {
                Check.due("1 = 1: solutionsWith", x.solutionsWith(v, t), 225);
            }
            for (int w = 0; w < 3; w++) {
                int want = v == w ? 3375 : 225;
                Check.due("1 = 1: solutionsAlike", x.solutionsAlike(v, w), want);
            }
        }
    }

    private static void variableEqualsThing() {
        for (int v = 0; v < 3; v++) {
            for (int t = 0; t < 15; t++) {
                SortedSolver x = Worlds.full();
                Worlds.put(x, 0, 5 + v);
                Worlds.put(x, 1, Worlds.tokensOf(t));
                String when = "variable " + v + " = thing " + t;
                Check.due(when + ": solutions", x.solutions(), 225);
                dueFirst(when, x, v == 0 ? t : 0, v == 1 ? t : 0, v == 2 ? t : 0);
                for (int w = 0; w < 3; w++) {
                    Check.due(when + ": values", x.values(w), v == w ? 1 << t : 0x7FFF);
                    Check.due(when + ": with", x.solutionsWith(w, t), v == w ? 225 : 15);
                    int other = (t + 1) % 15;
                    Check.due(when + ": with", x.solutionsWith(w, other), v == w ? 0 : 15);
                    Check.due(when + ": alike", x.solutionsAlike(v, w), v == w ? 225 : 15);
                }
            }
        }
    }

    private static void variableEqualsVariable() {
        SortedSolver x = Worlds.full();
        Worlds.put(x, 0, 5);
        Worlds.put(x, 1, 7);
        Check.due("x = z: solutions", x.solutions(), 225);
        Check.due("x = z: alike(0, 2)", x.solutionsAlike(0, 2), 225);
        Check.due("x = z: alike(2, 0)", x.solutionsAlike(2, 0), 225);
        Check.due("x = z: alike(0, 1)", x.solutionsAlike(0, 1), 15);
        Check.due("x = z: alike(1, 2)", x.solutionsAlike(1, 2), 15);
        Check.due("x = z: alike(1, 1)", x.solutionsAlike(1, 1), 225);
        x.constant(1, 1);
        x.variable(2, 1);
        dueNothing("x = z without a thing of both sorts", x);
        x.below(1, 0);
        Check.due("x = z, 1 < 0: solutions", x.solutions(), 15);
        dueFirst("x = z, 1 < 0", x, 1, 0, 1);
        dueValues("x = z, 1 < 0", x, 2, 0x7FFF, 2);
    }

    private static void functionAgainstVariable() {
        SortedSolver x = Worlds.full();
        Worlds.put(x, 0, 5);
        Worlds.put(x, 1, 1, 6, 7);
        Check.due("x = g(y, z): solutions", x.solutions(), 9);
        dueFirst("x = g(y, z)", x, 6, 0, 0);
        dueValues("x = g(y, z)", x, 0x7FC0, 7, 7);
        Check.due("x = g(y, z): with(0, 11)", x.solutionsWith(0, 11), 1);
        Check.due("x = g(y, z): with(1, 2)", x.solutionsWith(1, 2), 3);
        Check.due("x = g(y, z): alike(1, 2)", x.solutionsAlike(1, 2), 3);
        Worlds.put(x, 1, 1, 6, 5);
        dueNothing("x = g(y, x)", x);
        Worlds.put(x, 0, 0, 5);
        Worlds.put(x, 1, 1, 6, 7);
        dueNothing("f(x) = g(y, z)", x);
        Worlds.put(x, 0, 0, 5);
        Worlds.put(x, 1, 2);
        dueNothing("f(x) = 0", x);
    }

    private static void largerThanThings() {
        SortedSolver x = Worlds.full();
        Worlds.put(x, 0, 0, 0, 5);
        Worlds.put(x, 1, 0, 0, 6);
        Check.due("f(f(x)) = f(f(y)): solutions", x.solutions(), 225);
        Check.due("f(f(x)) = f(f(y)): alike", x.solutionsAlike(0, 1), 225);
        Worlds.put(x, 0, 1, 5, 1, 6, 7);
        Worlds.put(x, 1, 1, 1, 2, 3, 5);
        // x = g(0, 1) = g(y, z)
        Check.due("g(x, g(y, z)) = g(g(0, 1), x): solutions", x.solutions(), 1);
        dueFirst("g(x, g(y, z)) = g(g(0, 1), x)", x, 7, 0, 1);
        dueValues("g(x, g(y, z)) = g(g(0, 1), x)", x, 1 << 7, 1, 2);
        Worlds.put(x, 0, 0, 0, 0, 3);
        Worlds.put(x, 1, 0, 0, 6);
        Check.due("f(f(f(1))) = f(f(y)): solutions", x.solutions(), 225);
        dueFirst("f(f(f(1))) = f(f(y))", x, 0, 4, 0);
        Worlds.put(x, 0, 0, 0, 0, 3);
        Worlds.put(x, 1, 0, 6);
        dueNothing("f(f(f(1))) = f(y)", x);
    }

    private static void longestTerms() {
        SortedSolver x = Worlds.full();
        Worlds.put(x, 0, 1, 1, 1, 1, 5, 6, 7, 5, 6);
        Worlds.put(x, 1, 1, 1, 1, 1, 6, 7, 5, 6, 7);
        Check.due("nine tokens, all alike: solutions", x.solutions(), 15);
        Check.due("nine tokens: with(1, 14)", x.solutionsWith(1, 14), 1);
        dueValues("nine tokens", x, 0x7FFF, 0x7FFF, 0x7FFF);
        Worlds.put(x, 1, 1, 5, 1, 6, 1, 7, 1, 5, 6);
        dueNothing("nine tokens, the other comb", x);
        Worlds.put(x, 0, 0, 0, 0, 0, 0, 0, 0, 0, 5);
        Worlds.put(x, 1, 0, 0, 0, 0, 0, 0, 0, 6);
        Check.due("eight times f = seven times f: solutions", x.solutions(), 45);
        dueFirst("eight times f = seven times f", x, 0, 3, 0);
        Worlds.put(x, 1, 0, 0, 0, 0, 0, 0, 6);
        dueNothing("eight times f = six times f", x);
    }

    private static void resultsNeedNoSort() {
        SortedSolver x = new SortedSolver();
        Worlds.put(x, 0, 0, 5);
        Worlds.put(x, 1, 0, 3);
        Check.due("f(x) = f(1) without ranks: solutions", x.solutions(), 9);
        dueFirst("f(x) = f(1) without ranks", x, 1, 0, 0);
        Worlds.put(x, 0, 1, 5, 6);
        Worlds.put(x, 1, 1, 4, 3);
        Check.due("g(x, y) = g(2, 1) without ranks: solutions", x.solutions(), 3);
        dueFirst("g(x, y) = g(2, 1) without ranks", x, 2, 1, 0);
        Worlds.put(x, 0, 5);
        Worlds.put(x, 1, 0, 3);
        dueNothing("x = f(1) without ranks", x);
        // A constant of the equation needs no sort of any variable either.
        x.constant(2, 3);
        Worlds.put(x, 0, 0, 4);
        Worlds.put(x, 1, 0, 4);
        Check.due("f(2) = f(2): solutions", x.solutions(), 8);
    }

    private static void sameTokensInAnotherShape() {
        SortedSolver x = Worlds.full();
        Worlds.put(x, 0, 1, 0, 5, 6);
        Worlds.put(x, 1, 1, 5, 0, 6);
        // f(x) = x never holds.
        dueNothing("g(f(x), y) = g(x, f(y))", x);
        Worlds.put(x, 1, 0, 1, 5, 6);
        dueNothing("g(f(x), y) = f(g(x, y))", x);
        Worlds.put(x, 0, 1, 5, 6);
        Worlds.put(x, 1, 1, 6, 5);
        Check.due("g(x, y) = g(y, x): solutions", x.solutions(), 225);
        Check.due("g(x, y) = g(y, x): alike", x.solutionsAlike(0, 1), 225);
    }

    private static void variablesThatDoNotOccurNeedAThing() {
        SortedSolver x = Worlds.full();
        Worlds.put(x, 0, 5);
        Worlds.put(x, 1, 5);
        Check.due("x = x: solutions", x.solutions(), 3375);
        x.variable(2, 1);
        dueNothing("x = x, no thing for z", x);
        x.rankF(0, 1, true);
        Check.due("x = x, three things for z: solutions", x.solutions(), 675);
        dueFirst("x = x, three things for z", x, 0, 0, 3);
        dueValues("x = x, three things for z", x, 0x7FFF, 0x7FFF, 0x38);
        x.variable(2, 0);
        x.variable(1, 2);
        dueNothing("x = x, no thing for y", x);
    }

    private static void firstIsLeastInDictionaryOrder() {
        SortedSolver x = Worlds.full();
        Worlds.put(x, 0, 1, 5, 6);
        Worlds.put(x, 1, 1, 7, 0, 5);
        // x = z, y = f(x)
        dueFirst("g(x, y) = g(z, f(x))", x, 0, 3, 0);
        x.constant(0, 1);
        dueFirst("the same, constant 0 of sort 1", x, 1, 4, 1);
        Worlds.put(x, 0, 7);
        Worlds.put(x, 1, 0, 5);
        // z = f(x), so the least z goes with the least x.
        dueFirst("z = f(x)", x, 1, 1, 4);
        Worlds.put(x, 0, 5);
        Worlds.put(x, 1, 0, 7);
        dueFirst("x = f(z)", x, 4, 1, 1);
        Worlds.put(x, 0, 1, 5, 0, 6);
        Worlds.put(x, 1, 1, 4, 7);
        dueFirst("g(x, f(y)) = g(2, z)", x, 2, 1, 4);
    }

    private static void firstVariableCountsFirst() {
        SortedSolver x = new SortedSolver();
        x.constant(1, 1);
        x.constant(2, 2);
        x.below(0, 3);
        x.below(1, 3);
        // Of the things of g, g(0, 1) and g(1, 0) alone have the sort 2.
        x.rankG(0, 1, 2, true);
        x.rankG(1, 0, 2, true);
        x.variable(0, 3);
        x.variable(1, 2);
        x.variable(2, 3);
        Worlds.put(x, 0, 6);
        Worlds.put(x, 1, 1, 7, 5);
        Check.due("y = g(z, x): solutions", x.solutions(), 2);
        dueFirst("y = g(z, x), the least x", x, 0, 9, 1);
        x.variable(1, 3);
        x.variable(2, 2);
        Worlds.put(x, 0, 7);
        Worlds.put(x, 1, 1, 6, 5);
        Check.due("z = g(y, x): solutions", x.solutions(), 2);
        dueFirst("z = g(y, x), the least x", x, 0, 1, 9);
        dueValues("z = g(y, x)", x, 3, 3, 1 << 7 | 1 << 9);
    }

    private static void wrongInputs() {
        SortedSolver x = Worlds.full();
        Worlds.put(x, 0, 3);
        Worlds.put(x, 1, 3);
        for (int wrong : NO_VARIABLE) {
            Check.due("first(" + wrong + ")", x.first(wrong), -1);
            Check.due("values(" + wrong + ")", x.values(wrong), 0);
            Check.due("solutionsWith(" + wrong + ", 0)", x.solutionsWith(wrong, 0), 0);
            Check.due("solutionsAlike(" + wrong + " twice)", x.solutionsAlike(wrong, wrong), 0);
            for (int v = 0; v < 3; v++) {
                Check.due("solutionsAlike(" + v + ", " + wrong + ")", x.solutionsAlike(v, wrong), 0);
                Check.due("solutionsAlike(" + wrong + ", " + v + ")", x.solutionsAlike(wrong, v), 0);
            }
        }
        for (int wrong : NO_THING) {
            for (int v = 0; v < 3; v++) {
                Check.due("solutionsWith(" + v + ", " + wrong + ")", x.solutionsWith(v, wrong), 0);
            }
        }
        Check.due("solutionsWith(3, 15)", x.solutionsWith(3, 15), 0);
    }

    private static void askingChangesNothing() {
        SortedSolver x = Worlds.full();
        Worlds.put(x, 0, 5);
        Worlds.put(x, 1, 1, 6, 7);
        for (int round = 0; round < 3; round++) {
            Check.due("solutions again", x.solutions(), 9);
            dueFirst("again", x, 6, 0, 0);
            dueValues("again", x, 0x7FC0, 7, 7);
            Check.due("with again", x.solutionsWith(2, 1), 3);
            Check.due("alike again", x.solutionsAlike(2, 1), 3);
            Check.due("sorts again", x.sorts(9), 1);
            Check.due("complete again", x.complete(1), true);
        }
        Check.due("back", x.back(1), 7);
        Check.due("back", x.back(1), 6);
        Check.due("back", x.back(1), 1);
        Check.due("back", x.back(1), -1);
    }
}
