/** Solves an equation between two terms over a small world of sorted things. */
public final class SortedSolver {
    public static final int NONE = -1;

    private static final int SORTS = 4;
    private static final int F_RANKS = SORTS * SORTS;
    private static final int G_RANKS = SORTS * SORTS * SORTS;
    private static final int CONSTANTS = 3;
    private static final int VARIABLES = 3;
    private static final int SIDES = 2;

    private static final int FIRST_F_THING = 3;
    private static final int FIRST_G_THING = 6;
    private static final int THINGS = 15;

    private static final int F_TOKEN = 0;
    private static final int G_TOKEN = 1;
    private static final int FIRST_CONSTANT_TOKEN = 2;
    private static final int FIRST_VARIABLE_TOKEN = 5;
    private static final int TOKENS = 8;

    private static final int MOST_TOKENS = 9;
    private static final int TOKEN_ROOM = SIDES * MOST_TOKENS;
    // A variable's token becomes three tokens at most, those of g(c, d).
    private static final int MOST_REPLACED = 3 * MOST_TOKENS;
    private static final int REPLACED_ROOM = SIDES * MOST_REPLACED;

    // An assignment is a number whose three digits to the base THINGS are the
    // things of the variables 0, 1, 2: so the order of the numbers is the
    // dictionary order, and the least solution is the first one.
    private static final int ASSIGNMENTS = THINGS * THINGS * THINGS;

    // Bit b of above[a]: sort a is at most sort b. Declared pairs are never
    // taken back, so what they lead to is all that has to be kept of them.
    private final int[] above = new int[SORTS];
    private final int[] constantSort = new int[CONSTANTS];
    private final int[] variableSort = new int[VARIABLES];
    private final boolean[] ranksOfF = new boolean[F_RANKS];
    private final boolean[] ranksOfG = new boolean[G_RANKS];

    private final int[] tokens = new int[TOKEN_ROOM];
    private final int[] tokenCount = new int[SIDES];

    // Room to work in: solve() writes all of it anew, nothing is kept here
    // from one call to the next.
    private final int[] thingSorts = new int[THINGS];
    private final int[] chosen = new int[VARIABLES];
    private final int[] replaced = new int[REPLACED_ROOM];
    private final boolean[] solved = new boolean[ASSIGNMENTS];

    public SortedSolver() {
        for (int s = 0; s < SORTS; s++) {
            above[s] = 1 << s;
        }
    }

    public boolean below(int a, int b) {
        if (!isSort(a) || !isSort(b) || leadsTo(b, a)) {
            return false;
        }
        for (int s = 0; s < SORTS; s++) {
            if (leadsTo(s, a)) {
                above[s] |= above[b];
            }
        }
        return true;
    }

    public boolean atMost(int a, int b) {
        return isSort(a) && isSort(b) && leadsTo(a, b);
    }

    public boolean constant(int c, int s) {
        if (c < 0 || c >= CONSTANTS || !isSort(s)) {
            return false;
        }
        constantSort[c] = s;
        return true;
    }

    public boolean rankF(int s, int t, boolean on) {
        if (!isSort(s) || !isSort(t)) {
            return false;
        }
        ranksOfF[SORTS * s + t] = on;
        return true;
    }

    public boolean rankG(int s, int t, int u, boolean on) {
        if (!isSort(s) || !isSort(t) || !isSort(u)) {
            return false;
        }
        ranksOfG[SORTS * (SORTS * s + t) + u] = on;
        return true;
    }

    public boolean variable(int v, int s) {
        if (!isVariable(v) || !isSort(s)) {
            return false;
        }
        variableSort[v] = s;
        return true;
    }

    public int feed(int side, int token) {
        if (!isSide(side) || token < 0 || token >= TOKENS) {
            return NONE;
        }
        if (isWhole(side) || tokenCount[side] >= MOST_TOKENS) {
            return NONE;
        }
        tokens[MOST_TOKENS * side + tokenCount[side]] = token;
        tokenCount[side]++;
        return tokenCount[side];
    }

    public int back(int side) {
        if (!isSide(side) || tokenCount[side] == 0) {
            return NONE;
        }
        tokenCount[side]--;
        return tokens[MOST_TOKENS * side + tokenCount[side]];
    }

    public boolean complete(int side) {
        return isSide(side) && isWhole(side);
    }

    public int sorts(int t) {
        return isThing(t) ? sortsOfThing(t) : 0;
    }

    public int solutions() {
        solve();
        int count = 0;
        for (int i = 0; i < ASSIGNMENTS; i++) {
            if (solved[i]) {
                count++;
            }
        }
        return count;
    }

    public int first(int v) {
        if (!isVariable(v)) {
            return NONE;
        }
        solve();
        for (int i = 0; i < ASSIGNMENTS; i++) {
            if (solved[i]) {
                return thingIn(i, v);
            }
        }
        return NONE;
    }

    public int values(int v) {
        if (!isVariable(v)) {
            return 0;
        }
        solve();
        int things = 0;
        for (int i = 0; i < ASSIGNMENTS; i++) {
            if (solved[i]) {
                things |= 1 << thingIn(i, v);
            }
        }
        return things;
    }

    public int solutionsWith(int v, int t) {
        if (!isVariable(v) || !isThing(t)) {
            return 0;
        }
        solve();
        int count = 0;
        for (int i = 0; i < ASSIGNMENTS; i++) {
            if (solved[i] && thingIn(i, v) == t) {
                count++;
            }
        }
        return count;
    }

    public int solutionsAlike(int v, int w) {
        if (!isVariable(v) || !isVariable(w)) {
            return 0;
        }
        solve();
        int count = 0;
        for (int i = 0; i < ASSIGNMENTS; i++) {
            if (solved[i] && thingIn(i, v) == thingIn(i, w)) {
                count++;
            }
        }
        return count;
    }

    private static boolean isSort(int s) {
        return s >= 0 && s < SORTS;
    }

    private static boolean isVariable(int v) {
        return v >= 0 && v < VARIABLES;
    }

    private static boolean isSide(int side) {
        return side >= 0 && side < SIDES;
    }

    private static boolean isThing(int t) {
        return t >= 0 && t < THINGS;
    }

    private static boolean holds(int sortBits, int s) {
        return (sortBits >> s & 1) == 1;
    }

    private boolean leadsTo(int a, int b) {
        return holds(above[a], b);
    }

    // feed() refuses every token behind a whole term, so a term that lacks
    // nothing at its end lacked something before.
    private boolean isWhole(int side) {
        int missing = 1;
        for (int i = 0; i < tokenCount[side]; i++) {
            int token = tokens[MOST_TOKENS * side + i];
            if (token == G_TOKEN) {
                missing++;
            } else if (token != F_TOKEN) {
                missing--;
            }
        }
        return missing == 0;
    }

    private int sortsOfThing(int t) {
        if (t < FIRST_F_THING) {
            return sortsOfConstant(t);
        }
        if (t < FIRST_G_THING) {
            return sortsOfF(t - FIRST_F_THING);
        }
        int pair = t - FIRST_G_THING;
        return sortsOfG(pair / CONSTANTS, pair % CONSTANTS);
    }

    private int sortsOfConstant(int c) {
        return above[constantSort[c]];
    }

    private int sortsOfF(int c) {
        int result = 0;
        int argument = sortsOfConstant(c);
        for (int s = 0; s < SORTS; s++) {
            for (int t = 0; t < SORTS; t++) {
                if (ranksOfF[SORTS * s + t] && holds(argument, s)) {
                    result |= above[t];
                }
            }
        }
        return result;
    }

    private int sortsOfG(int c, int d) {
        int result = 0;
        int left = sortsOfConstant(c);
        int right = sortsOfConstant(d);
        for (int s = 0; s < SORTS; s++) {
            for (int t = 0; t < SORTS; t++) {
                if (holds(left, s) && holds(right, t)) {
                    result |= resultsOfG(s, t);
                }
            }
        }
        return result;
    }

    private int resultsOfG(int s, int t) {
        int result = 0;
        for (int u = 0; u < SORTS; u++) {
            if (ranksOfG[SORTS * (SORTS * s + t) + u]) {
                result |= above[u];
            }
        }
        return result;
    }

    private static int thingIn(int assignment, int v) {
        if (v == 0) {
            return assignment / (THINGS * THINGS);
        }
        if (v == 1) {
            return assignment / THINGS % THINGS;
        }
        return assignment % THINGS;
    }

    private void solve() {
        for (int t = 0; t < THINGS; t++) {
            thingSorts[t] = sortsOfThing(t);
        }
        boolean bothWhole = isWhole(0) && isWhole(1);
        for (int i = 0; i < ASSIGNMENTS; i++) {
            choose(i);
            solved[i] = bothWhole && chosenHaveTheirSorts() && sidesBecomeSame();
        }
    }

    private void choose(int assignment) {
        for (int v = 0; v < VARIABLES; v++) {
            chosen[v] = thingIn(assignment, v);
        }
    }

    private boolean chosenHaveTheirSorts() {
        for (int v = 0; v < VARIABLES; v++) {
            if (!holds(thingSorts[chosen[v]], variableSort[v])) {
                return false;
            }
        }
        return true;
    }

    // Tokens that stand what is applied first can be read as a term in one way
    // only, so two terms are the same when their tokens are.
    private boolean sidesBecomeSame() {
        int leftCount = replaceVariables(0);
        int rightCount = replaceVariables(1);
        if (leftCount != rightCount) {
            return false;
        }
        for (int i = 0; i < leftCount; i++) {
            if (replaced[i] != replaced[MOST_REPLACED + i]) {
                return false;
            }
        }
        return true;
    }

    private int replaceVariables(int side) {
        int start = MOST_REPLACED * side;
        int end = start;
        for (int i = 0; i < tokenCount[side]; i++) {
            int token = tokens[MOST_TOKENS * side + i];
            if (token >= FIRST_VARIABLE_TOKEN) {
                end = writeThing(end, chosen[token - FIRST_VARIABLE_TOKEN]);
            } else {
                replaced[end] = token;
                end++;
            }
        }
        return end - start;
    }

    private int writeThing(int at, int t) {
        if (t < FIRST_F_THING) {
            replaced[at] = FIRST_CONSTANT_TOKEN + t;
            return at + 1;
        }
        if (t < FIRST_G_THING) {
            replaced[at] = F_TOKEN;
            replaced[at + 1] = FIRST_CONSTANT_TOKEN + t - FIRST_F_THING;
            return at + 2;
        }
        int pair = t - FIRST_G_THING;
        replaced[at] = G_TOKEN;
        replaced[at + 1] = FIRST_CONSTANT_TOKEN + pair / CONSTANTS;
        replaced[at + 2] = FIRST_CONSTANT_TOKEN + pair % CONSTANTS;
        return at + 3;
    }
}
