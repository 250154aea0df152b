/**
 * Promises 1 to 7 and 11, and what the section 'Terms' says of sorts and things: a
 * test for each sentence that names a boundary case. What is refused for arguments
 * outside their range is in RefusedCallsTest.
 */
public final class SortsBoundariesTest {
    private static final int[][] ORDERS = everyOrder();

    public static void main(String[] args) {
        everySortIsAtMostItself();
        alongDeclaredPairs();
        constantsAreOfSortZeroAtFirst();
        variablesAreOfSortZeroAtFirst();
        thingsAreNumbered();
        constantHasEverySortAboveItsOwn();
        functionWithoutRankHasNoSort();
        argumentOfFMayBeBelow();
        resultOfFGoesUp();
        argumentsOfGMayBeBelow();
        resultOfGGoesUp();
        severalRanksThatFit();
        newObjectHasNoPairs();
        newObjectHasNoRanks();
        newObjectHasNoTokens();
        newObjectIsApartFromOthers();
        belowAtTheEdges();
        belowDeclaredAlready();
        belowFollowsAlready();
        belowItself();
        belowBackAlongPairs();
        belowAfterRefusal();
        atMostAtTheEdges();
        atMostOnlyUpwards();
        constantAtTheEdges();
        constantOnceMore();
        rankFAtTheEdges();
        rankFThereAlready();
        rankFNotThere();
        rankGAtTheEdges();
        rankGThereAlready();
        rankGNotThere();
        variableAtTheEdges();
        variableOnceMore();
        sortsAtTheEdges();
        sortsNoneAndAll();
        Check.end();
    }

    private static int[][] everyOrder() {
        int[][] orders = new int[24][];
        int count = 0;
        for (int code = 0; code < 256; code++) {
            int[] order = {code & 3, code >> 2 & 3, code >> 4 & 3, code >> 6};
            int sorts = 1 << order[0] | 1 << order[1] | 1 << order[2] | 1 << order[3];
            if (sorts == 15) {
                orders[count++] = order;
            }
        }
        return orders;
    }

    /** Bit 4 * a + b of pairs: a is at most b. */
    private static void dueAtMost(String when, SortedSolver x, int pairs) {
        for (int a = 0; a < 4; a++) {
            for (int b = 0; b < 4; b++) {
                boolean want = (pairs >> 4 * a + b & 1) == 1;
                Check.due(when + ": atMost(" + a + ", " + b + ")", x.atMost(a, b), want);
            }
        }
    }

    private static void sameTerms(SortedSolver x) {
        Worlds.put(x, 0, 2);
        Worlds.put(x, 1, 2);
    }

    /** "a sort a is AT MOST a sort b when a = b" */
    private static void everySortIsAtMostItself() {
        SortedSolver x = new SortedSolver();
        for (int s = 0; s < 4; s++) {
            Check.due("atMost(" + s + ", " + s + ")", x.atMost(s, s), true);
        }
        x.below(0, 3);
        x.below(3, 1);
        for (int s = 0; s < 4; s++) {
            Check.due("0 < 3 < 1: atMost(" + s + ", " + s + ")", x.atMost(s, s), true);
        }
    }

    /** "or one comes from a to b along declared pairs": one, two and three of them. */
    private static void alongDeclaredPairs() {
        for (int[] chain : ORDERS) {
            for (int[] turn : ORDERS) {
                SortedSolver x = new SortedSolver();
                for (int pair : turn) {
                    if (pair < 3) {
                        x.below(chain[pair], chain[pair + 1]);
                    }
                }
                for (int low = 0; low < 4; low++) {
                    for (int high = 0; high < 4; high++) {
                        String pair = chain[low] + ", " + chain[high];
                        boolean got = x.atMost(chain[low], chain[high]);
                        Check.due("in a chain: atMost(" + pair + ")", got, low <= high);
                    }
                }
            }
        }
    }

    /** "There are constants 0, 1, 2, each with a sort (0 at first)" */
    private static void constantsAreOfSortZeroAtFirst() {
        SortedSolver x = new SortedSolver();
        for (int c = 0; c < 3; c++) {
            Check.due("new: sorts(" + c + ")", x.sorts(c), 1);
        }
    }

    /** "VARIABLES are 0, 1, 2, each with a sort (0 at first)" */
    private static void variablesAreOfSortZeroAtFirst() {
        for (int v = 0; v < 3; v++) {
            SortedSolver x = new SortedSolver();
            sameTerms(x);
            for (int s = 0; s < 4; s++) {
                x.constant(1, s);
                Check.due("constant 1 of sort " + s, x.values(v), s == 0 ? 7 : 5);
            }
        }
    }

    /** "0, 1, 2 are the constants; 3 + c is f(constant c); 6 + 3 * c + d is g(..)" */
    private static void thingsAreNumbered() {
        SortedSolver x = Worlds.full();
        Worlds.put(x, 0, 6);
        int[] edges = {0, 2, 3, 5, 6, 8, 9, 14};
        for (int thing : edges) {
            Worlds.put(x, 1, Worlds.tokensOf(thing));
            Check.due("y = thing " + thing + ": first(1)", x.first(1), thing);
            Check.due("y = thing " + thing + ": values(1)", x.values(1), 1 << thing);
        }
        SortedSolver y = new SortedSolver();
        y.constant(1, 1);
        y.constant(2, 2);
        y.rankF(2, 3, true);
        y.rankG(2, 1, 3, true);
        for (int thing = 3; thing < 15; thing++) {
            // f(2) is 3 + 2, g(2, 1) is 6 + 3 * 2 + 1.
            Check.due("sorts(" + thing + ")", y.sorts(thing), thing == 5 || thing == 13 ? 8 : 0);
        }
    }

    /** "a constant has every sort that its sort is at most" */
    private static void constantHasEverySortAboveItsOwn() {
        SortedSolver x = new SortedSolver();
        x.below(1, 2);
        x.below(2, 3);
        int[] want = {1, 14, 12, 8};
        for (int s = 0; s < 4; s++) {
            x.constant(2, s);
            Check.due("1 < 2 < 3, constant 2 of sort " + s, x.sorts(2), want[s]);
        }
    }

    /** "f(c) has every sort b for which there is a rank": without one it has none. */
    private static void functionWithoutRankHasNoSort() {
        SortedSolver x = new SortedSolver();
        x.below(0, 1);
        for (int thing = 3; thing < 15; thing++) {
            Check.due("no rank: sorts(" + thing + ")", x.sorts(thing), 0);
        }
        x.rankF(2, 0, true);
        x.rankG(0, 2, 0, true);
        x.rankG(2, 0, 0, true);
        for (int thing = 3; thing < 15; thing++) {
            Check.due("no rank that fits: sorts(" + thing + ")", x.sorts(thing), 0);
        }
    }

    /** "such that c has s": also when its own sort is below s, never when it is above. */
    private static void argumentOfFMayBeBelow() {
        SortedSolver x = new SortedSolver();
        x.below(0, 1);
        x.below(1, 2);
        x.rankF(1, 3, true);
        int[] want = {8, 8, 0, 0};
        for (int s = 0; s < 4; s++) {
            x.constant(0, s);
            Check.due("rank 1 -> 3, constant 0 of sort " + s, x.sorts(3), want[s]);
        }
    }

    /** "and t is at most b" */
    private static void resultOfFGoesUp() {
        SortedSolver x = new SortedSolver();
        x.below(1, 2);
        x.below(2, 3);
        int[] want = {1, 14, 12, 8};
        for (int t = 0; t < 4; t++) {
            x.rankF(0, t, true);
            Check.due("1 < 2 < 3, rank 0 -> " + t, x.sorts(4), want[t]);
            x.rankF(0, t, false);
        }
    }

    /** "such that c has s, d has t": also when their own sorts are below these. */
    private static void argumentsOfGMayBeBelow() {
        SortedSolver x = new SortedSolver();
        x.below(0, 1);
        x.below(1, 2);
        x.rankG(1, 2, 3, true);
        for (int c = 0; c < 4; c++) {
            for (int d = 0; d < 4; d++) {
                x.constant(0, c);
                x.constant(1, d);
                String when = "rank 1, 2 -> 3, constants of the sorts " + c + ", " + d;
                Check.due(when + ": g(0, 1)", x.sorts(7), c <= 1 && d <= 2 ? 8 : 0);
                Check.due(when + ": g(1, 0)", x.sorts(9), d <= 1 && c <= 2 ? 8 : 0);
            }
        }
    }

    /** "and u is at most b" */
    private static void resultOfGGoesUp() {
        SortedSolver x = new SortedSolver();
        x.below(1, 2);
        x.below(2, 3);
        int[] want = {1, 14, 12, 8};
        for (int u = 0; u < 4; u++) {
            x.rankG(0, 0, u, true);
            Check.due("1 < 2 < 3, rank 0, 0 -> " + u, x.sorts(14), want[u]);
            x.rankG(0, 0, u, false);
        }
    }

    /** "for which there is a rank": two that give the same sort give it, not nothing. */
    private static void severalRanksThatFit() {
        SortedSolver x = new SortedSolver();
        x.below(0, 1);
        x.below(2, 3);
        x.rankF(0, 2, true);
        x.rankF(1, 2, true);
        Check.due("0 -> 2 and 1 -> 2: sorts(3)", x.sorts(3), 12);
        x.rankF(1, 3, true);
        Check.due("and 1 -> 3: sorts(3)", x.sorts(3), 12);
        x.rankG(0, 0, 2, true);
        x.rankG(0, 0, 3, true);
        Check.due("0, 0 -> 2 and 0, 0 -> 3: sorts(6)", x.sorts(6), 12);
        x.rankG(0, 1, 2, true);
        Check.due("and 0, 1 -> 2: sorts(6)", x.sorts(6), 12);
        x.rankG(1, 0, 2, true);
        Check.due("and 1, 0 -> 2: sorts(6)", x.sorts(6), 12);
    }

    /** "No pairs of sorts" */
    private static void newObjectHasNoPairs() {
        dueAtMost("new", new SortedSolver(), 0x8421);
        for (int pair = 0; pair < 16; pair++) {
            int a = pair / 4;
            int b = pair % 4;
            Check.due("first below(" + a + ", " + b + ")", new SortedSolver().below(a, b), a != b);
        }
    }

    /** "no ranks", for constants of any sorts. */
    private static void newObjectHasNoRanks() {
        SortedSolver x = new SortedSolver();
        for (int pair = 0; pair < 16; pair++) {
            x.constant(0, pair / 4);
            x.constant(1, pair % 4);
            String when = "new, constants of the sorts " + pair / 4 + ", " + pair % 4;
            Check.due(when + ": f(0)", x.sorts(3), 0);
            Check.due(when + ": g(0, 0)", x.sorts(6), 0);
            Check.due(when + ": g(0, 1)", x.sorts(7), 0);
        }
    }

    /** "both terms without tokens" */
    private static void newObjectHasNoTokens() {
        for (int side = 0; side < 2; side++) {
            Check.due("new: complete(" + side + ")", new SortedSolver().complete(side), false);
            Check.due("new: back(" + side + ")", new SortedSolver().back(side), -1);
            Check.due("new: feed(" + side + ", 0)", new SortedSolver().feed(side, 0), 1);
        }
        Check.due("new: solutions", new SortedSolver().solutions(), 0);
    }

    /** Promise 1 holds for every object, also for one that is made after others were used. */
    private static void newObjectIsApartFromOthers() {
        SortedSolver used = Worlds.full();
        used.below(0, 1);
        used.constant(1, 1);
        used.variable(1, 1);
        sameTerms(used);
        Check.due("used: solutions", used.solutions() > 0, true);
        SortedSolver x = new SortedSolver();
        dueAtMost("later object", x, 0x8421);
        for (int t = 0; t < 15; t++) {
            Check.due("later object: sorts(" + t + ")", x.sorts(t), t < 3 ? 1 : 0);
        }
        Check.due("later object: back(0)", x.back(0), -1);
        sameTerms(x);
        Check.due("later object: solutions", x.solutions(), 27);
    }

    /** Sorts 0 and 3 are sorts. */
    private static void belowAtTheEdges() {
        SortedSolver x = new SortedSolver();
        Check.due("below(0, 3)", x.below(0, 3), true);
        dueAtMost("0 < 3", x, 0x8429);
        SortedSolver y = new SortedSolver();
        Check.due("below(3, 0)", y.below(3, 0), true);
        dueAtMost("3 < 0", y, 0x9421);
    }

    /** "Answers true (also when that is declared already)" */
    private static void belowDeclaredAlready() {
        for (int[] order : ORDERS) {
            SortedSolver x = new SortedSolver();
            SortedSolver once = new SortedSolver();
            for (int i = 0; i < 2; i++) {
                int a = order[i];
                int b = order[i + 1];
                once.below(a, b);
                for (int time = 1; time <= 3; time++) {
                    String call = "below(" + a + ", " + b + "), time " + time;
                    Check.due(call, x.below(a, b), true);
                }
            }
            boolean same = Probe.of(x).equals(Probe.of(once));
            Check.due("declared thrice shows what declared once shows", same, true);
        }
    }

    /** A pair that others lead to is not refused: b is not at most a. */
    private static void belowFollowsAlready() {
        SortedSolver x = new SortedSolver();
        x.below(0, 1);
        x.below(1, 2);
        x.below(2, 3);
        Check.due("0 < 1 < 2 < 3: below(0, 2)", x.below(0, 2), true);
        Check.due("0 < 1 < 2 < 3: below(1, 3)", x.below(1, 3), true);
        Check.due("0 < 1 < 2 < 3: below(0, 3)", x.below(0, 3), true);
        dueAtMost("0 < 1 < 2 < 3", x, 0x8CEF);
    }

    /** "false .. when .. b is at most a": for a = b, whatever is declared. */
    private static void belowItself() {
        SortedSolver x = new SortedSolver();
        for (int pairs = 0; pairs <= 3; pairs++) {
            if (pairs > 0) {
                x.below(pairs - 1, pairs);
            }
            for (int s = 0; s < 4; s++) {
                Check.due(pairs + " pairs: below(" + s + ", " + s + ")", x.below(s, s), false);
            }
        }
    }

    /** "false .. when .. b is at most a": along one, two and three pairs. */
    private static void belowBackAlongPairs() {
        for (int[] chain : ORDERS) {
            SortedSolver x = new SortedSolver();
            for (int i = 0; i < 3; i++) {
                Check.due("chain goes on", x.below(chain[i], chain[i + 1]), true);
                for (int low = 0; low <= i; low++) {
                    String call = "below(" + chain[i + 1] + ", " + chain[low] + ")";
                    Check.due("back: " + call, x.below(chain[i + 1], chain[low]), false);
                }
            }
        }
    }

    /** A refused pair is not declared: what it would have led to stays away. */
    private static void belowAfterRefusal() {
        SortedSolver x = new SortedSolver();
        x.below(0, 1);
        Check.due("below(1, 0) in 0 < 1", x.below(1, 0), false);
        Check.due("below(0, 4) in 0 < 1", x.below(0, 4), false);
        dueAtMost("0 < 1", x, 0x8423);
        Check.due("below(2, 0) in 0 < 1", x.below(2, 0), true);
        Check.due("below(1, 3) in 2 < 0 < 1", x.below(1, 3), true);
        dueAtMost("2 < 0 < 1 < 3", x, 0x8FAB);
    }

    /** Sorts 0 and 3 are sorts. */
    private static void atMostAtTheEdges() {
        SortedSolver x = new SortedSolver();
        Check.due("new: atMost(0, 3)", x.atMost(0, 3), false);
        Check.due("new: atMost(3, 0)", x.atMost(3, 0), false);
        x.below(0, 3);
        Check.due("0 < 3: atMost(0, 3)", x.atMost(0, 3), true);
        Check.due("0 < 3: atMost(3, 0)", x.atMost(3, 0), false);
        Check.due("0 < 3: atMost(0, 4)", x.atMost(0, 4), false);
        Check.due("0 < 3: atMost(-1, 3)", x.atMost(-1, 3), false);
    }

    /** Two sorts below the same one, or above the same one, are not at most each other. */
    private static void atMostOnlyUpwards() {
        SortedSolver x = new SortedSolver();
        x.below(0, 1);
        x.below(0, 2);
        x.below(1, 3);
        x.below(2, 3);
        dueAtMost("0 < 1 < 3, 0 < 2 < 3", x, 0x8CAF);
    }

    /** Constants 0 and 2, sorts 0 and 3. */
    private static void constantAtTheEdges() {
        SortedSolver x = new SortedSolver();
        Check.due("constant(0, 3)", x.constant(0, 3), true);
        Check.due("constant(2, 3)", x.constant(2, 3), true);
        Check.due("sorts(0), sort 3", x.sorts(0), 8);
        Check.due("sorts(1), not given", x.sorts(1), 1);
        Check.due("sorts(2), sort 3", x.sorts(2), 8);
        Check.due("constant(0, 0)", x.constant(0, 0), true);
        Check.due("constant(2, 0)", x.constant(2, 0), true);
        Check.due("sorts(0), sort 0", x.sorts(0), 1);
        Check.due("sorts(2), sort 0", x.sorts(2), 1);
    }

    /** A constant has one sort: the last that was given, also the same again. */
    private static void constantOnceMore() {
        SortedSolver x = new SortedSolver();
        x.constant(1, 2);
        Check.due("constant(1, 2) again", x.constant(1, 2), true);
        Check.due("sorts(1), sort 2 twice", x.sorts(1), 4);
        Check.due("constant(1, 3)", x.constant(1, 3), true);
        Check.due("sorts(1), sort 3 after 2", x.sorts(1), 8);
    }

    /** Sorts 0 and 3 at both places. */
    private static void rankFAtTheEdges() {
        int[] edges = {0, 3};
        for (int s : edges) {
            for (int t : edges) {
                SortedSolver x = new SortedSolver();
                x.constant(2, s);
                x.constant(1, 3 - s);
                Check.due("rankF(" + s + ", " + t + ", true)", x.rankF(s, t, true), true);
                Check.due(s + " -> " + t + ": sorts(5)", x.sorts(5), 1 << t);
                Check.due(s + " -> " + t + ": sorts(4)", x.sorts(4), 0);
                Check.due("rankF(" + s + ", " + t + ", false)", x.rankF(s, t, false), true);
                Check.due(s + " -> " + t + " taken away: sorts(5)", x.sorts(5), 0);
            }
        }
    }

    /** A rank that is given twice is there once: taken away, it is gone. */
    private static void rankFThereAlready() {
        SortedSolver x = new SortedSolver();
        x.rankF(0, 2, true);
        Check.due("rankF(0, 2, true) again", x.rankF(0, 2, true), true);
        Check.due("given twice: sorts(3)", x.sorts(3), 4);
        x.rankF(0, 2, false);
        Check.due("given twice, taken away: sorts(3)", x.sorts(3), 0);
    }

    /** Taking away what is not there answers true too, and other ranks stay. */
    private static void rankFNotThere() {
        SortedSolver x = new SortedSolver();
        Check.due("rankF(0, 2, false), no ranks", x.rankF(0, 2, false), true);
        Check.due("no ranks: sorts(3)", x.sorts(3), 0);
        x.rankF(0, 3, true);
        Check.due("rankF(0, 2, false), not there", x.rankF(0, 2, false), true);
        Check.due("rankF(3, 0, false), not there", x.rankF(3, 0, false), true);
        Check.due("rank 0 -> 3: sorts(3)", x.sorts(3), 8);
        x.rankF(0, 2, true);
        Check.due("given after all: sorts(3)", x.sorts(3), 12);
    }

    /** Sorts 0 and 3 at the three places. */
    private static void rankGAtTheEdges() {
        for (int code = 0; code < 8; code++) {
            int s = code / 4 * 3;
            int t = code / 2 % 2 * 3;
            int u = code % 2 * 3;
            SortedSolver x = new SortedSolver();
            x.constant(0, s);
            x.constant(2, t);
            x.constant(1, 1);
            String rank = "(" + s + ", " + t + ", " + u;
            Check.due("rankG" + rank + ", true)", x.rankG(s, t, u, true), true);
            Check.due(rank + "): sorts(8)", x.sorts(8), 1 << u);
            Check.due(rank + "): sorts(7)", x.sorts(7), 0);
            Check.due(rank + "): sorts(12)", x.sorts(12), s == t ? 1 << u : 0);
            Check.due("rankG" + rank + ", false)", x.rankG(s, t, u, false), true);
            Check.due(rank + ") taken away: sorts(8)", x.sorts(8), 0);
        }
    }

    /** A rank that is given twice is there once: taken away, it is gone. */
    private static void rankGThereAlready() {
        SortedSolver x = new SortedSolver();
        x.rankG(0, 0, 2, true);
        Check.due("rankG(0, 0, 2, true) again", x.rankG(0, 0, 2, true), true);
        Check.due("given twice: sorts(6)", x.sorts(6), 4);
        x.rankG(0, 0, 2, false);
        Check.due("given twice, taken away: sorts(6)", x.sorts(6), 0);
    }

    /** Taking away what is not there answers true too, and other ranks stay. */
    private static void rankGNotThere() {
        SortedSolver x = new SortedSolver();
        Check.due("rankG(0, 0, 2, false), no ranks", x.rankG(0, 0, 2, false), true);
        Check.due("no ranks: sorts(6)", x.sorts(6), 0);
        x.rankG(0, 0, 3, true);
        Check.due("rankG(0, 0, 2, false), not there", x.rankG(0, 0, 2, false), true);
        Check.due("rankG(0, 3, 0, false), not there", x.rankG(0, 3, 0, false), true);
        Check.due("rankG(3, 0, 0, false), not there", x.rankG(3, 0, 0, false), true);
        Check.due("rank 0, 0 -> 3: sorts(6)", x.sorts(6), 8);
        x.rankG(0, 0, 2, true);
        Check.due("given after all: sorts(6)", x.sorts(6), 12);
    }

    /** Variables 0 and 2, sorts 0 and 3. */
    private static void variableAtTheEdges() {
        SortedSolver x = new SortedSolver();
        sameTerms(x);
        x.constant(2, 3);
        Check.due("variable(0, 3)", x.variable(0, 3), true);
        Check.due("values(0), sort 3", x.values(0), 4);
        Check.due("values(1), not given", x.values(1), 3);
        Check.due("values(2), not given", x.values(2), 3);
        Check.due("variable(2, 3)", x.variable(2, 3), true);
        Check.due("values(2), sort 3", x.values(2), 4);
        Check.due("variable(0, 0)", x.variable(0, 0), true);
        Check.due("variable(2, 0)", x.variable(2, 0), true);
        Check.due("values(0), sort 0", x.values(0), 3);
        Check.due("values(2), sort 0", x.values(2), 3);
    }

    /** A variable has one sort: the last that was given, also the same again. */
    private static void variableOnceMore() {
        SortedSolver x = new SortedSolver();
        sameTerms(x);
        x.constant(1, 1);
        x.constant(2, 2);
        x.variable(1, 2);
        Check.due("variable(1, 2) again", x.variable(1, 2), true);
        Check.due("values(1), sort 2 twice", x.values(1), 4);
        Check.due("variable(1, 1)", x.variable(1, 1), true);
        Check.due("values(1), sort 1 after 2", x.values(1), 2);
    }

    /** Things 0 and 14 are things. */
    private static void sortsAtTheEdges() {
        SortedSolver x = new SortedSolver();
        x.constant(0, 3);
        x.constant(2, 1);
        x.rankG(1, 1, 2, true);
        Check.due("sorts(0)", x.sorts(0), 8);
        Check.due("sorts(14)", x.sorts(14), 4);
        Check.due("sorts(-1)", x.sorts(-1), 0);
        Check.due("sorts(15)", x.sorts(15), 0);
    }

    /** "bit s for sort s": no bit, each bit alone, all four. */
    private static void sortsNoneAndAll() {
        SortedSolver x = new SortedSolver();
        Check.due("no rank: sorts(3)", x.sorts(3), 0);
        int all = 0;
        for (int s = 3; s >= 0; s--) {
            x.constant(1, s);
            Check.due("sorts(1), sort " + s, x.sorts(1), 1 << s);
            x.rankF(0, s, true);
            all |= 1 << s;
            Check.due("ranks down to 0 -> " + s + ": sorts(3)", x.sorts(3), all);
        }
    }
}
