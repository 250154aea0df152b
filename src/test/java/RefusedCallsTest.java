import java.util.ArrayList;
import java.util.List;

/**
 * Promises 2 to 11 and 13 to 16: for each argument of each call the numbers outside
 * its range, and every other call that is refused. Each answers as its promise says
 * and changes nothing that a later call shows.
 */
public final class RefusedCallsTest {
    // The document promises nothing after the 512th call on an object.
    private static final int MOST_CALLS = 512;
    private static final int[] NO_SORT = Outside.of(4);
    private static final int[] NO_CONSTANT = Outside.of(3);
    private static final int[] NO_VARIABLE = Outside.of(3);
    private static final int[] NO_SIDE = Outside.of(2);
    private static final int[] NO_TOKEN = Outside.of(8);
    private static final int[] NO_THING = Outside.of(15);

    private interface Call {
        long on(SortedSolver x);
    }

    /** The calls that bring an object to where a call is refused, and what it shows then. */
    private static final class Start {
        final String name;
        final List<Call> calls;
        final List<String> shown;

        Start(String name, List<Call> calls) {
            this.name = name;
            this.calls = calls;
            shown = Probe.of(make());
        }

        SortedSolver make() {
            SortedSolver x = new SortedSolver();
            for (Call call : calls) {
                call.on(x);
            }
            return x;
        }
    }

    private static final List<Start> STARTS = List.of(
            new Start("a new object", List.of()),
            new Start("some solutions", someSolutions()),
            new Start("every rank", everyRank()),
            new Start("nine tokens", nineTokens()));

    public static void main(String[] args) {
        startsDiffer();
        startHasSolutions();
        belowOutside();
        belowCircles();
        atMostOutside();
        constantOutside();
        rankFOutside();
        rankGOutside();
        variableOutside();
        feedOutside();
        feedToCompleteTerm();
        feedToNineTokens();
        backOutside();
        backWithoutTokens();
        completeOutside();
        sortsOutside();
        firstOutside();
        valuesOutside();
        solutionsWithOutside();
        solutionsAlikeOutside();
        Check.end();
    }

    private static long bit(boolean answer) {
        return answer ? 1L : 0L;
    }

    private static void addTokens(List<Call> calls, int side, int... tokens) {
        for (int token : tokens) {
            calls.add(x -> x.feed(side, token));
        }
    }

    private static void addOrder(List<Call> calls) {
        calls.add(x -> bit(x.below(0, 1)));
        calls.add(x -> bit(x.below(1, 3)));
        calls.add(x -> bit(x.below(2, 3)));
        calls.add(x -> bit(x.constant(1, 1)));
        calls.add(x -> bit(x.constant(2, 2)));
    }

    private static List<Call> someSolutions() {
        List<Call> calls = new ArrayList<>();
        addOrder(calls);
        calls.add(x -> bit(x.rankF(1, 2, true)));
        calls.add(x -> bit(x.rankF(3, 0, true)));
        calls.add(x -> bit(x.rankG(0, 1, 2, true)));
        calls.add(x -> bit(x.rankG(2, 3, 0, true)));
        calls.add(x -> bit(x.variable(0, 3)));
        calls.add(x -> bit(x.variable(1, 1)));
        calls.add(x -> bit(x.variable(2, 2)));
        addTokens(calls, 0, 1, 5, 7);
        addTokens(calls, 1, 1, 6, 0, 3);
        return calls;
    }

    /** A rank that is taken away wrongly shows here; the terms go on. */
    private static List<Call> everyRank() {
        List<Call> calls = new ArrayList<>();
        for (int rank = 0; rank < 64; rank++) {
            int s = rank / 16;
            int t = rank / 4 % 4;
            int u = rank % 4;
            calls.add(x -> bit(x.rankG(s, t, u, true)));
            if (s == 0) {
                calls.add(x -> bit(x.rankF(t, u, true)));
            }
        }
        addOrder(calls);
        calls.add(x -> bit(x.variable(0, 1)));
        calls.add(x -> bit(x.variable(2, 3)));
        addTokens(calls, 0, 1, 5);
        addTokens(calls, 1, 0);
        return calls;
    }

    private static List<Call> nineTokens() {
        List<Call> calls = new ArrayList<>();
        calls.add(x -> bit(x.variable(1, 2)));
        calls.add(x -> bit(x.constant(0, 2)));
        addTokens(calls, 0, 1, 1, 1, 1, 5, 6, 7, 2, 0);
        addTokens(calls, 1, 1, 1, 1, 1, 5, 6, 7, 2, 3);
        return calls;
    }

    /** If two starts showed the same, a change from one to the other would not show. */
    private static void startsDiffer() {
        for (Start one : STARTS) {
            for (Start other : STARTS) {
                boolean same = one.shown.equals(other.shown);
                Check.due(one.name + " and " + other.name, same, one == other);
            }
        }
    }

    /** Where there is no solution, most answers about solutions are 0 for any argument. */
    private static void startHasSolutions() {
        // x = y with the sorts 3 and 1, z = f(1)
        SortedSolver x = STARTS.get(1).make();
        Check.due("some solutions: solutions", x.solutions(), 8);
        Check.due("some solutions: values(0)", x.values(0), 0x703B);
        Check.due("some solutions: values(2)", x.values(2), 1 << 4);
    }

    private static void refused(String what, long due, Call... calls) {
        for (Start start : STARTS) {
            refused(start, what, due, calls);
        }
    }

    private static void refused(Start start, String what, long due, Call... calls) {
        String when = start.name + ", " + what;
        SortedSolver x = start.make();
        for (Call call : calls) {
            Check.due(when, call.on(x), due);
        }
        int used = start.calls.size() + calls.length + Probe.CALLS;
        Check.due(when + ": calls within what is promised", used <= MOST_CALLS, true);
        List<String> shown = Probe.of(x);
        Check.due(when + ": lines of the probe", shown.size(), start.shown.size());
        for (int i = 0; i < shown.size(); i++) {
            if (!shown.get(i).equals(start.shown.get(i))) {
                Check.due(when + ": " + shown.get(i) + ", not " + start.shown.get(i), true, false);
                return;
            }
        }
    }

    /** "false, changing nothing, when a or b is not 0 .. 3" */
    private static void belowOutside() {
        for (int wrong : NO_SORT) {
            for (int s = 0; s < 4; s++) {
                int right = s;
                refused("below(" + wrong + ", " + s + ")", 0, x -> bit(x.below(wrong, right)));
                refused("below(" + s + ", " + wrong + ")", 0, x -> bit(x.below(right, wrong)));
            }
            refused("below(" + wrong + " twice)", 0, x -> bit(x.below(wrong, wrong)));
        }
    }

    /** "false, changing nothing, when .. b is at most a" */
    private static void belowCircles() {
        for (int s = 0; s < 4; s++) {
            int same = s;
            refused("below(" + s + ", " + s + ")", 0, x -> bit(x.below(same, same)));
        }
        List<Call> chain = new ArrayList<>();
        for (int s = 0; s < 3; s++) {
            int lower = s;
            chain.add(x -> bit(x.below(lower, lower + 1)));
            Start start = new Start("a chain up to " + (s + 1), List.copyOf(chain));
            for (int b = 0; b <= s + 1; b++) {
                for (int a = b; a <= s + 1; a++) {
                    int upper = a;
                    int under = b;
                    String what = "below(" + a + ", " + b + ")";
                    refused(start, what, 0, x -> bit(x.below(upper, under)));
                }
            }
        }
    }

    /** "false when a or b is not 0 .. 3" */
    private static void atMostOutside() {
        for (int wrong : NO_SORT) {
            refused("atMost(" + wrong + ", 0 .. 3)", 0,
                    x -> bit(x.atMost(wrong, 0)), x -> bit(x.atMost(wrong, 1)),
                    x -> bit(x.atMost(wrong, 2)), x -> bit(x.atMost(wrong, 3)));
            refused("atMost(0 .. 3, " + wrong + ")", 0,
                    x -> bit(x.atMost(0, wrong)), x -> bit(x.atMost(1, wrong)),
                    x -> bit(x.atMost(2, wrong)), x -> bit(x.atMost(3, wrong)));
            refused("atMost(" + wrong + " twice)", 0, x -> bit(x.atMost(wrong, wrong)));
        }
    }

    /** "false, changing nothing, when c is not 0 .. 2 or s is not 0 .. 3" */
    private static void constantOutside() {
        for (int wrong : NO_CONSTANT) {
            for (int s = 0; s < 4; s++) {
                int right = s;
                String what = "constant(" + wrong + ", " + s + ")";
                refused(what, 0, x -> bit(x.constant(wrong, right)));
            }
        }
        for (int wrong : NO_SORT) {
            for (int c = 0; c < 3; c++) {
                int right = c;
                String what = "constant(" + c + ", " + wrong + ")";
                refused(what, 0, x -> bit(x.constant(right, wrong)));
            }
            refused("constant(3, " + wrong + ")", 0, x -> bit(x.constant(3, wrong)));
        }
    }

    /** "False, changing nothing, when s or t is not 0 .. 3", of a rank given or taken away. */
    private static void rankFOutside() {
        for (int wrong : NO_SORT) {
            for (boolean on : new boolean[] {true, false}) {
                refused("rankF(" + wrong + ", 0 .. 3, " + on + ")", 0,
                        x -> bit(x.rankF(wrong, 0, on)), x -> bit(x.rankF(wrong, 1, on)),
                        x -> bit(x.rankF(wrong, 2, on)), x -> bit(x.rankF(wrong, 3, on)));
                refused("rankF(0 .. 3, " + wrong + ", " + on + ")", 0,
                        x -> bit(x.rankF(0, wrong, on)), x -> bit(x.rankF(1, wrong, on)),
                        x -> bit(x.rankF(2, wrong, on)), x -> bit(x.rankF(3, wrong, on)));
                refused("rankF(" + wrong + " twice, " + on + ")", 0,
                        x -> bit(x.rankF(wrong, wrong, on)));
            }
        }
    }

    /** "False, changing nothing, when s, t or u is not 0 .. 3", of a rank given or taken away. */
    private static void rankGOutside() {
        for (int wrong : NO_SORT) {
            for (boolean on : new boolean[] {true, false}) {
                List<Call> first = new ArrayList<>();
                List<Call> second = new ArrayList<>();
                List<Call> third = new ArrayList<>();
                for (int pair = 0; pair < 16; pair++) {
                    int p = pair / 4;
                    int q = pair % 4;
                    first.add(x -> bit(x.rankG(wrong, p, q, on)));
                    second.add(x -> bit(x.rankG(p, wrong, q, on)));
                    third.add(x -> bit(x.rankG(p, q, wrong, on)));
                }
                String what = "rankG, " + on + ", with " + wrong;
                refused(what + " first", 0, first.toArray(new Call[0]));
                refused(what + " second", 0, second.toArray(new Call[0]));
                refused(what + " third", 0, third.toArray(new Call[0]));
                refused(what + " thrice", 0, x -> bit(x.rankG(wrong, wrong, wrong, on)));
            }
        }
    }

    /** "false, changing nothing, when v is not 0 .. 2 or s is not 0 .. 3" */
    private static void variableOutside() {
        for (int wrong : NO_VARIABLE) {
            for (int s = 0; s < 4; s++) {
                int right = s;
                String what = "variable(" + wrong + ", " + s + ")";
                refused(what, 0, x -> bit(x.variable(wrong, right)));
            }
        }
        for (int wrong : NO_SORT) {
            for (int v = 0; v < 3; v++) {
                int right = v;
                String what = "variable(" + v + ", " + wrong + ")";
                refused(what, 0, x -> bit(x.variable(right, wrong)));
            }
            refused("variable(3, " + wrong + ")", 0, x -> bit(x.variable(3, wrong)));
        }
    }

    /** "NONE, changing nothing, when side is not 0 or 1, token is not 0 .. 7" */
    private static void feedOutside() {
        for (int wrong : NO_SIDE) {
            for (int token = 0; token < 8; token++) {
                int right = token;
                refused("feed(" + wrong + ", " + token + ")", -1, x -> x.feed(wrong, right));
            }
        }
        for (int wrong : NO_TOKEN) {
            refused("feed(0, " + wrong + ")", -1, x -> x.feed(0, wrong));
            refused("feed(1, " + wrong + ")", -1, x -> x.feed(1, wrong));
            refused("feed(2, " + wrong + ")", -1, x -> x.feed(2, wrong));
        }
    }

    private static Start terms(String name, int[] left, int[] right) {
        List<Call> calls = new ArrayList<>();
        addTokens(calls, 0, left);
        addTokens(calls, 1, right);
        return new Start(name, calls);
    }

    private static void feedRefused(Start start, int side) {
        for (int token = 0; token < 8; token++) {
            int right = token;
            refused(start, "feed(" + side + ", " + token + ")", -1, x -> x.feed(side, right));
        }
    }

    /** "NONE, changing nothing, when .. the term is complete", of any length. */
    private static void feedToCompleteTerm() {
        int[][] whole = {
            {2}, {4}, {5}, {7}, {0, 2}, {0, 0, 6}, {1, 2, 3}, {1, 0, 5, 4}, {1, 1, 2, 3, 4},
            {0, 0, 0, 0, 0, 0, 0, 7}, {0, 1, 1, 1, 2, 3, 4, 5}, {1, 1, 1, 1, 5, 6, 7, 2, 3}
        };
        for (int[] term : whole) {
            feedRefused(terms("left term complete", term, new int[] {1}), 0);
            feedRefused(terms("right term complete", new int[] {1}, term), 1);
        }
    }

    /** "NONE, changing nothing, when .. it has nine tokens", though it is not complete. */
    private static void feedToNineTokens() {
        int[][] full = {
            {0, 0, 0, 0, 0, 0, 0, 0, 0}, {1, 1, 1, 1, 1, 1, 1, 1, 1},
            {1, 1, 1, 1, 5, 6, 7, 2, 0}, {1, 1, 1, 1, 1, 2, 3, 4, 5}
        };
        for (int[] term : full) {
            feedRefused(terms("left term of nine tokens", term, new int[0]), 0);
            feedRefused(terms("right term of nine tokens", new int[0], term), 1);
        }
    }

    /** "NONE when side is not 0 or 1" */
    private static void backOutside() {
        for (int wrong : NO_SIDE) {
            refused("back(" + wrong + ")", -1, x -> x.back(wrong));
        }
    }

    /** "NONE when .. the term has no tokens", however often. */
    private static void backWithoutTokens() {
        int[] none = {};
        int[] some = {1, 5, 0};
        Call left = x -> x.back(0);
        Call right = x -> x.back(1);
        refused(terms("no tokens", none, none), "back", -1, left, right, left, left, right, right);
        refused(terms("right term alone", none, some), "back(0)", -1, left, left, left);
        refused(terms("left term alone", some, none), "back(1)", -1, right, right, right);
    }

    /** "false when side is not 0 or 1" */
    private static void completeOutside() {
        for (int wrong : NO_SIDE) {
            refused("complete(" + wrong + ")", 0, x -> bit(x.complete(wrong)));
        }
    }

    /** "0 when t is not 0 .. 14" */
    private static void sortsOutside() {
        for (int wrong : NO_THING) {
            refused("sorts(" + wrong + ")", 0, x -> x.sorts(wrong));
        }
    }

    /** "NONE when .. v is not 0 .. 2" */
    private static void firstOutside() {
        for (int wrong : NO_VARIABLE) {
            refused("first(" + wrong + ")", -1, x -> x.first(wrong));
        }
    }

    /** "0 when v is not 0 .. 2" */
    private static void valuesOutside() {
        for (int wrong : NO_VARIABLE) {
            refused("values(" + wrong + ")", 0, x -> x.values(wrong));
        }
    }

    /** "0 when v is not 0 .. 2 or t is not 0 .. 14" */
    private static void solutionsWithOutside() {
        for (int wrong : NO_VARIABLE) {
            List<Call> calls = new ArrayList<>();
            for (int t = 0; t < 15; t++) {
                int right = t;
                calls.add(x -> x.solutionsWith(wrong, right));
            }
            refused("solutionsWith(" + wrong + ", 0 .. 14)", 0, calls.toArray(new Call[0]));
        }
        for (int wrong : NO_THING) {
            refused("solutionsWith(0 .. 3, " + wrong + ")", 0,
                    x -> x.solutionsWith(0, wrong), x -> x.solutionsWith(1, wrong),
                    x -> x.solutionsWith(2, wrong), x -> x.solutionsWith(3, wrong));
        }
    }

    /** "0 when v or w is not 0 .. 2", also for v = w. */
    private static void solutionsAlikeOutside() {
        for (int wrong : NO_VARIABLE) {
            refused("solutionsAlike(" + wrong + ", 0 .. 2)", 0,
                    x -> x.solutionsAlike(wrong, 0), x -> x.solutionsAlike(wrong, 1),
                    x -> x.solutionsAlike(wrong, 2));
            refused("solutionsAlike(0 .. 2, " + wrong + ")", 0,
                    x -> x.solutionsAlike(0, wrong), x -> x.solutionsAlike(1, wrong),
                    x -> x.solutionsAlike(2, wrong));
            refused("solutionsAlike(" + wrong + " twice)", 0,
                    x -> x.solutionsAlike(wrong, wrong));
        }
    }
}
