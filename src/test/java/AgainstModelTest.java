/** Promises 1 to 16: long runs of calls, answered by the program and by the model. */
public final class AgainstModelTest {
    private static final int RUNS = 400;
    // The document promises nothing after the 512th call on an object.
    private static final int CALLS = 512;

    private long state;
    private final SortedSolver x = new SortedSolver();
    private final Model model = new Model();
    private final String name;

    private AgainstModelTest(int run) {
        state = 7919L * run + 1;
        name = "run " + run + ", call ";
    }

    public static void main(String[] args) {
        everyBelowSequence();
        for (int run = 0; run < RUNS && Check.wrongSoFar() < 20; run++) {
            new AgainstModelTest(run).go();
        }
        Check.end();
    }

    /** All runs of four pairs: every order in which sorts can come to be ordered. */
    private static void everyBelowSequence() {
        for (int code = 0; code < 1 << 16; code++) {
            SortedSolver x = new SortedSolver();
            Model model = new Model();
            for (int pair = 0; pair < 4; pair++) {
                int a = code >> 4 * pair & 3;
                int b = code >> 4 * pair + 2 & 3;
                Check.due("pairs " + code + ": below", x.below(a, b), model.below(a, b));
            }
            for (int pair = 0; pair < 16; pair++) {
                int a = pair / 4;
                int b = pair % 4;
                Check.due("pairs " + code + ": atMost", x.atMost(a, b), model.atMost(a, b));
            }
            if (Check.wrongSoFar() >= 20) {
                return;
            }
        }
    }

    /** A fixed sequence of numbers, the same in every run of the test. */
    private int pick(int end) {
        state = state * 6364136223846793005L + 1442695040888963407L;
        return (int) ((state >>> 33) % end);
    }

    /** Mostly a number below end, now and then one that is just outside. */
    private int pickOrWrong(int end) {
        return pick(40) == 0 ? (pick(2) == 0 ? -1 : end) : pick(end);
    }

    private void go() {
        int settling = pick(100);
        for (int call = 0; call < CALLS; call++) {
            String at = name + call + ": ";
            int kind = call < settling ? 0 : pick(20);
            if (kind < 2) {
                changeWorld(at);
            } else if (kind < 10) {
                changeTerms(at);
            } else {
                ask(at);
            }
        }
    }

    private void changeWorld(String at) {
        int s = pickOrWrong(4);
        int t = pickOrWrong(4);
        int u = pickOrWrong(4);
        int c = pickOrWrong(3);
        boolean on = pick(4) > 0;
        switch (pick(8)) {
            case 0:
                Check.due(at + "below", x.below(s, t), model.below(s, t));
                break;
            case 1:
                Check.due(at + "constant", x.constant(c, s), model.constant(c, s));
                break;
            case 2:
                Check.due(at + "variable", x.variable(c, s), model.variable(c, s));
                break;
            case 3:
            case 4:
                Check.due(at + "rankF", x.rankF(s, t, on), model.rankF(s, t, on));
                break;
            default:
                Check.due(at + "rankG", x.rankG(s, t, u, on), model.rankG(s, t, u, on));
                break;
        }
    }

    private void changeTerms(String at) {
        int side = pickOrWrong(2);
        if (pick(4) == 0) {
            Check.due(at + "back", x.back(side), model.back(side));
            return;
        }
        int token = pickToken(side);
        Check.due(at + "feed", x.feed(side, token), model.feed(side, token));
    }

    /** Unlike terms have no solutions: so what stands opposite, and variables, come often. */
    private int pickToken(int side) {
        int opposite = model.tokenOpposite(side);
        if (opposite >= 0 && pick(3) > 0) {
            return opposite >= 5 ? 5 + pick(3) : opposite;
        }
        return pick(2) == 0 ? 5 + pick(3) : pickOrWrong(8);
    }

    private void ask(String at) {
        int v = pickOrWrong(3);
        int w = pickOrWrong(3);
        int t = pickOrWrong(15);
        int s = pickOrWrong(4);
        int r = pickOrWrong(4);
        int side = pickOrWrong(2);
        switch (pick(8)) {
            case 0:
                Check.due(at + "atMost", x.atMost(s, r), model.atMost(s, r));
                break;
            case 1:
                Check.due(at + "complete", x.complete(side), model.complete(side));
                break;
            case 2:
                Check.due(at + "sorts", x.sorts(t), model.sorts(t));
                break;
            case 3:
                Check.due(at + "solutions", x.solutions(), model.solutions());
                break;
            case 4:
                Check.due(at + "first", x.first(v), model.first(v));
                break;
            case 5:
                Check.due(at + "values", x.values(v), model.values(v));
                break;
            case 6:
                Check.due(at + "solutionsWith", x.solutionsWith(v, t), model.solutionsWith(v, t));
                break;
            default:
                Check.due(at + "solutionsAlike", x.solutionsAlike(v, w), model.solutionsAlike(v, w));
                break;
        }
    }
}
