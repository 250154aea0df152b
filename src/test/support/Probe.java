import java.util.ArrayList;
import java.util.List;

/**
 * Everything that later calls can show of an object. Reading it takes the object
 * apart, so it is of no use afterwards. The ranks are read one by one only where a
 * sort is below sorts of greater number alone: see readRanksOfF.
 */
final class Probe {
    /** So many calls it makes on the object. */
    static final int CALLS = 296;

    private final SortedSolver x;
    private final List<String> seen = new ArrayList<>();

    private Probe(SortedSolver x) {
        this.x = x;
    }

    /** A line for every call with an answer that tells something. */
    static List<String> of(SortedSolver x) {
        Probe probe = new Probe(x);
        probe.readSorts();
        probe.readSolutions();
        probe.readTerms();
        probe.readRanksOfF();
        probe.readRanksOfG();
        probe.readVariables();
        return probe.seen;
    }

    private void see(String call, long answer) {
        seen.add("later " + call + " = " + answer);
    }

    private void see(String call, boolean answer) {
        see(call, answer ? 1L : 0L);
    }

    private void readSorts() {
        for (int a = 0; a < 4; a++) {
            for (int b = 0; b < 4; b++) {
                see("atMost(" + a + ", " + b + ")", x.atMost(a, b));
            }
        }
        for (int t = 0; t < 15; t++) {
            see("sorts(" + t + ")", x.sorts(t));
        }
    }

    private void readSolutions() {
        see("solutions()", x.solutions());
        for (int v = 0; v < 3; v++) {
            int first = x.first(v);
            see("first(" + v + ")", first);
            see("values(" + v + ")", x.values(v));
            see("solutionsWith(" + v + ", " + first + ")", x.solutionsWith(v, first));
            int next = (v + 1) % 3;
            see("solutionsAlike(" + v + ", " + next + ")", x.solutionsAlike(v, next));
        }
    }

    private void readTerms() {
        for (int side = 0; side < 2; side++) {
            see("complete(" + side + ")", x.complete(side));
            for (int i = 0; i < 10; i++) {
                see("back(" + side + ")", x.back(side));
            }
        }
    }

    /**
     * Ranks are taken away as they are read: the greater argument first and the lesser
     * result first, so that none that is still there has the same effect as the one
     * that is read.
     */
    private void readRanksOfF() {
        for (int s = 3; s >= 0; s--) {
            x.constant(0, s);
            for (int t = 0; t < 4; t++) {
                see("sorts(3) by " + s + " -> " + t, x.sorts(3));
                x.rankF(s, t, false);
            }
        }
    }

    private void readRanksOfG() {
        for (int pair = 15; pair >= 0; pair--) {
            int s = pair / 4;
            int t = pair % 4;
            x.constant(0, s);
            x.constant(1, t);
            for (int u = 0; u < 4; u++) {
                see("sorts(7) by " + s + ", " + t + " -> " + u, x.sorts(7));
                x.rankG(s, t, u, false);
            }
        }
    }

    /** With all ranks of f every variable has a thing, so constant 0 shows where it fits. */
    private void readVariables() {
        for (int rank = 0; rank < 16; rank++) {
            x.rankF(rank / 4, rank % 4, true);
        }
        x.feed(0, 2);
        x.feed(1, 2);
        for (int s = 0; s < 4; s++) {
            x.constant(0, s);
            for (int v = 0; v < 3; v++) {
                see("values(" + v + ") with constant(0, " + s + ")", x.values(v));
            }
        }
    }
}
