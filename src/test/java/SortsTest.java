/** Promises 1 to 7 and 11: sorts, ranks, and the sorts that things have. */
public final class SortsTest {
    // 32 and -32 besides the nearest ones: a shift takes them for 0.
    private static final int[] NO_SORT =
            {-1, 4, 32, -32, Integer.MIN_VALUE, Integer.MAX_VALUE};
    private static final int[] NO_CONSTANT_NOR_VARIABLE =
            {-1, 3, 32, -32, Integer.MIN_VALUE, Integer.MAX_VALUE};

    public static void main(String[] args) {
        newObject();
        objectsAreApart();
        belowOrdinary();
        belowJoinsChains();
        belowRefusesCircles();
        belowWrongInputs();
        atMostWrongInputs();
        constantOrdinary();
        constantWrongInputs();
        rankFOrdinary();
        rankFOnAndOff();
        rankFEveryPair();
        rankFWrongInputs();
        rankGOrdinary();
        rankGOnAndOff();
        rankGEveryTriple();
        rankGWrongInputs();
        variableOrdinary();
        variableWrongInputs();
        sortsFollowLaterChanges();
        sortsWrongInputs();
        Check.end();
    }

    private static void dueSorts(String when, SortedSolver x, int... want) {
        for (int t = 0; t < want.length; t++) {
            Check.due(when + ": sorts(" + t + ")", x.sorts(t), want[t]);
        }
    }

    /** Bit 4 * a + b of pairs: a is at most b. */
    private static void dueAtMost(String when, SortedSolver x, int pairs) {
        for (int a = 0; a < 4; a++) {
            for (int b = 0; b < 4; b++) {
                boolean want = (pairs >> 4 * a + b & 1) == 1;
                Check.due(when + ": atMost(" + a + ", " + b + ")", x.atMost(a, b), want);
            }
        }
    }

    private static void newObject() {
        SortedSolver x = new SortedSolver();
        dueAtMost("new", x, 0x8421);
        dueSorts("new", x, 1, 1, 1, 0, 0, 0, 0, 0, 0, 0, 0, 0, 0, 0, 0);
        for (int side = 0; side < 2; side++) {
            Check.due("new: complete", x.complete(side), false);
            Check.due("new: back", x.back(side), -1);
        }
        Check.due("new: solutions", x.solutions(), 0);
        x.feed(0, 2);
        x.feed(1, 2);
        Check.due("new, then constant = constant: solutions", x.solutions(), 27);
        for (int v = 0; v < 3; v++) {
            Check.due("new: values(" + v + ")", x.values(v), 7);
        }
    }

    private static void objectsAreApart() {
        SortedSolver x = new SortedSolver();
        SortedSolver y = new SortedSolver();
        x.below(0, 1);
        x.constant(0, 2);
        x.rankF(0, 0, true);
        x.rankG(0, 0, 0, true);
        x.feed(0, 2);
        dueAtMost("other object", y, 0x8421);
        dueSorts("other object", y, 1, 1, 1, 0, 0, 0, 0, 0, 0, 0, 0, 0, 0, 0, 0);
        Check.due("other object: back", y.back(0), -1);
    }

    private static void belowOrdinary() {
        SortedSolver x = new SortedSolver();
        Check.due("below(0, 1)", x.below(0, 1), true);
        Check.due("below(0, 1) again", x.below(0, 1), true);
        dueAtMost("0 < 1", x, 0x8423);
        Check.due("below(0, 3)", x.below(0, 3), true);
        Check.due("below(1, 3)", x.below(1, 3), true);
        dueAtMost("0 < 1, 0 < 3, 1 < 3", x, 0x84AB);
        Check.due("below(2, 3)", x.below(2, 3), true);
        dueAtMost("and 2 < 3", x, 0x8CAB);
    }

    private static void belowJoinsChains() {
        SortedSolver x = new SortedSolver();
        x.below(2, 3);
        x.below(0, 1);
        dueAtMost("0 < 1, 2 < 3", x, 0x8C23);
        Check.due("below(1, 2)", x.below(1, 2), true);
        dueAtMost("0 < 1 < 2 < 3", x, 0x8CEF);
        Check.due("below(0, 3), which follows already", x.below(0, 3), true);
        dueAtMost("0 < 1 < 2 < 3", x, 0x8CEF);
        SortedSolver y = new SortedSolver();
        y.below(1, 0);
        y.below(2, 1);
        y.below(3, 2);
        dueAtMost("3 < 2 < 1 < 0", y, 0xF731);
    }

    private static void belowRefusesCircles() {
        SortedSolver x = new SortedSolver();
        for (int s = 0; s < 4; s++) {
            Check.due("below(" + s + ", " + s + ")", x.below(s, s), false);
        }
        x.below(0, 1);
        x.below(1, 2);
        Check.due("below(1, 0) in 0 < 1 < 2", x.below(1, 0), false);
        Check.due("below(2, 0) in 0 < 1 < 2", x.below(2, 0), false);
        dueAtMost("0 < 1 < 2", x, 0x8467);
        Check.due("below(2, 3) in 0 < 1 < 2", x.below(2, 3), true);
        Check.due("below(3, 0) in 0 < 1 < 2 < 3", x.below(3, 0), false);
        dueAtMost("0 < 1 < 2 < 3", x, 0x8CEF);
    }

    private static void belowWrongInputs() {
        SortedSolver x = new SortedSolver();
        for (int wrong : NO_SORT) {
            for (int s = 0; s < 4; s++) {
                Check.due("below(" + wrong + ", " + s + ")", x.below(wrong, s), false);
                Check.due("below(" + s + ", " + wrong + ")", x.below(s, wrong), false);
            }
            Check.due("below(" + wrong + " twice)", x.below(wrong, wrong), false);
        }
        dueAtMost("after wrong pairs", x, 0x8421);
    }

    private static void atMostWrongInputs() {
        SortedSolver x = new SortedSolver();
        x.below(0, 1);
        x.below(1, 2);
        x.below(2, 3);
        for (int wrong : NO_SORT) {
            for (int s = 0; s < 4; s++) {
                Check.due("atMost(" + wrong + ", " + s + ")", x.atMost(wrong, s), false);
                Check.due("atMost(" + s + ", " + wrong + ")", x.atMost(s, wrong), false);
            }
            Check.due("atMost(" + wrong + " twice)", x.atMost(wrong, wrong), false);
        }
    }

    private static void constantOrdinary() {
        SortedSolver x = new SortedSolver();
        for (int s = 0; s < 4; s++) {
            for (int c = 0; c < 3; c++) {
                Check.due("constant(" + c + ", " + s + ")", x.constant(c, s), true);
                Check.due("sorts(" + c + ")", x.sorts(c), 1 << s);
            }
        }
        x.constant(1, 0);
        dueSorts("constants of the sorts 3, 0, 3", x, 8, 1, 8);
        x.below(0, 2);
        x.below(2, 3);
        dueSorts("the same with 0 < 2 < 3", x, 8, 13, 8);
    }

    private static void constantWrongInputs() {
        SortedSolver x = new SortedSolver();
        x.constant(0, 1);
        x.constant(2, 3);
        for (int wrong : NO_CONSTANT_NOR_VARIABLE) {
            Check.due("constant(" + wrong + ", 2)", x.constant(wrong, 2), false);
        }
        for (int wrong : NO_SORT) {
            for (int c = 0; c < 3; c++) {
                Check.due("constant(" + c + ", " + wrong + ")", x.constant(c, wrong), false);
            }
        }
        dueSorts("after wrong constants", x, 2, 1, 8);
    }

    private static void rankFOrdinary() {
        SortedSolver x = new SortedSolver();
        x.constant(1, 1);
        x.constant(2, 2);
        Check.due("rankF(0, 3, true)", x.rankF(0, 3, true), true);
        dueSorts("0 -> 3", x, 1, 2, 4, 8, 0, 0, 0);
        Check.due("rankF(1, 0, true)", x.rankF(1, 0, true), true);
        dueSorts("0 -> 3, 1 -> 0", x, 1, 2, 4, 8, 1, 0, 0);
        x.below(2, 1);
        dueSorts("and 2 < 1", x, 1, 2, 6, 8, 1, 1, 0);
        x.below(0, 3);
        dueSorts("and 0 < 3", x, 9, 2, 6, 8, 9, 9, 0);
        // The result's sort goes up, never down: nothing gives f(1) the sort 2.
        x.rankF(3, 1, true);
        dueSorts("and 3 -> 1", x, 9, 2, 6, 10, 9, 9, 0);
    }

    private static void rankFOnAndOff() {
        SortedSolver x = new SortedSolver();
        Check.due("rankF(0, 1, false), not there", x.rankF(0, 1, false), true);
        x.rankF(0, 1, true);
        x.rankF(0, 2, true);
        Check.due("rankF(0, 1, true) again", x.rankF(0, 1, true), true);
        Check.due("sorts of f(0) with two ranks", x.sorts(3), 6);
        Check.due("rankF(0, 1, false)", x.rankF(0, 1, false), true);
        Check.due("sorts of f(0), one taken away", x.sorts(3), 4);
        x.rankF(2, 0, false);
        Check.due("sorts of f(0), the mirrored one taken away", x.sorts(3), 4);
        x.rankF(0, 2, false);
        Check.due("sorts of f(0), both taken away", x.sorts(3), 0);
    }

    private static void rankFEveryPair() {
        for (int s = 0; s < 4; s++) {
            for (int t = 0; t < 4; t++) {
                SortedSolver x = new SortedSolver();
                x.rankF(s, t, true);
                for (int own = 0; own < 4; own++) {
                    x.constant(2, own);
                    String when = s + " -> " + t + ", constant 2 of sort " + own;
                    Check.due(when + ": sorts(5)", x.sorts(5), own == s ? 1 << t : 0);
                }
            }
        }
    }

    private static void rankFWrongInputs() {
        SortedSolver x = new SortedSolver();
        x.rankF(0, 1, true);
        for (int wrong : NO_SORT) {
            for (int s = 0; s < 4; s++) {
                Check.due("rankF(" + wrong + ", " + s + ")", x.rankF(wrong, s, true), false);
                Check.due("rankF(" + s + ", " + wrong + ")", x.rankF(s, wrong, true), false);
                Check.due("rankF(" + wrong + ", " + s + ") off", x.rankF(wrong, s, false), false);
                Check.due("rankF(" + s + ", " + wrong + ") off", x.rankF(s, wrong, false), false);
            }
        }
        // With each sort in turn, a rank that came in wrongly would show.
        for (int s = 0; s < 4; s++) {
            x.constant(0, s);
            Check.due("after wrong ranks: sorts(3), sort " + s, x.sorts(3), s == 0 ? 2 : 0);
        }
    }

    private static void rankGOrdinary() {
        SortedSolver x = new SortedSolver();
        x.constant(1, 1);
        x.constant(2, 2);
        Check.due("rankG(0, 1, 2, true)", x.rankG(0, 1, 2, true), true);
        dueSorts("0, 1 -> 2", x, 1, 2, 4, 0, 0, 0, 0, 4, 0, 0, 0, 0, 0, 0, 0);
        Check.due("rankG(2, 0, 3, true)", x.rankG(2, 0, 3, true), true);
        dueSorts("and 2, 0 -> 3", x, 1, 2, 4, 0, 0, 0, 0, 4, 0, 0, 0, 0, 8, 0, 0);
        x.below(2, 1);
        dueSorts("and 2 < 1", x, 1, 2, 6, 0, 0, 0, 0, 6, 6, 0, 0, 0, 8, 0, 0);
        x.below(3, 0);
        dueSorts("and 3 < 0", x, 1, 2, 6, 0, 0, 0, 0, 6, 6, 0, 0, 0, 9, 0, 0);
        x.rankG(1, 2, 0, true);
        dueSorts("and 1, 2 -> 0", x, 1, 2, 6, 0, 0, 0, 0, 6, 6, 0, 0, 1, 9, 0, 1);
    }

    private static void rankGOnAndOff() {
        SortedSolver x = new SortedSolver();
        Check.due("rankG(0, 0, 1, false), not there", x.rankG(0, 0, 1, false), true);
        x.rankG(0, 0, 1, true);
        x.rankG(0, 0, 3, true);
        Check.due("rankG(0, 0, 1, true) again", x.rankG(0, 0, 1, true), true);
        Check.due("sorts of g(0, 0) with two ranks", x.sorts(6), 10);
        Check.due("rankG(0, 0, 1, false)", x.rankG(0, 0, 1, false), true);
        Check.due("sorts of g(0, 0), one taken away", x.sorts(6), 8);
        x.rankG(0, 0, 3, false);
        Check.due("sorts of g(0, 0), both taken away", x.sorts(6), 0);
    }

    private static void rankGEveryTriple() {
        for (int rank = 0; rank < 64; rank++) {
            int s = rank / 16;
            int t = rank / 4 % 4;
            int u = rank % 4;
            SortedSolver x = new SortedSolver();
            x.rankG(s, t, u, true);
            for (int own = 0; own < 16; own++) {
                x.constant(1, own / 4);
                x.constant(2, own % 4);
                int want = own / 4 == s && own % 4 == t ? 1 << u : 0;
                String when = s + ", " + t + " -> " + u + " with " + own / 4 + ", " + own % 4;
                Check.due(when + ": sorts(11)", x.sorts(11), want);
            }
        }
    }

    private static void rankGWrongInputs() {
        SortedSolver x = new SortedSolver();
        x.rankG(0, 1, 2, true);
        boolean[] onAndOff = {true, false};
        for (int wrong : NO_SORT) {
            for (int s = 0; s < 4; s++) {
                for (boolean on : onAndOff) {
                    String what = "rankG with " + wrong + " and " + s;
                    Check.due(what, x.rankG(wrong, s, s, on), false);
                    Check.due(what, x.rankG(s, wrong, s, on), false);
                    Check.due(what, x.rankG(s, s, wrong, on), false);
                    Check.due(what, x.rankG(s, (s + 1) % 4, wrong, on), false);
                }
            }
        }
        for (int own = 0; own < 16; own++) {
            x.constant(0, own / 4);
            x.constant(1, own % 4);
            Check.due("after wrong ranks: sorts(7)", x.sorts(7), own == 1 ? 4 : 0);
        }
    }

    private static void variableOrdinary() {
        SortedSolver x = new SortedSolver();
        x.constant(1, 1);
        x.constant(2, 2);
        x.feed(0, 2);
        x.feed(1, 2);
        Check.due("all variables of sort 0", x.solutions(), 1);
        for (int v = 0; v < 3; v++) {
            Check.due("variable(" + v + ", 1)", x.variable(v, 1), true);
            Check.due("values(" + v + "), sort 1", x.values(v), 2);
            Check.due("variable(" + v + ", 3)", x.variable(v, 3), true);
            Check.due("solutions, sort 3 has no thing", x.solutions(), 0);
            Check.due("variable(" + v + ", 2)", x.variable(v, 2), true);
            Check.due("values(" + v + "), sort 2", x.values(v), 4);
        }
        x.below(1, 2);
        x.variable(1, 1);
        Check.due("values(0), sort 2 above 1", x.values(0), 6);
        Check.due("values(1), sort 1 below 2", x.values(1), 2);
    }

    private static void variableWrongInputs() {
        SortedSolver x = new SortedSolver();
        x.constant(1, 1);
        x.constant(2, 2);
        x.feed(0, 2);
        x.feed(1, 2);
        x.variable(0, 2);
        x.variable(2, 1);
        for (int wrong : NO_CONSTANT_NOR_VARIABLE) {
            Check.due("variable(" + wrong + ", 1)", x.variable(wrong, 1), false);
        }
        for (int wrong : NO_SORT) {
            for (int v = 0; v < 3; v++) {
                Check.due("variable(" + v + ", " + wrong + ")", x.variable(v, wrong), false);
            }
        }
        Check.due("after wrong variables: values(0)", x.values(0), 4);
        Check.due("after wrong variables: values(1)", x.values(1), 1);
        Check.due("after wrong variables: values(2)", x.values(2), 2);
    }

    private static void sortsFollowLaterChanges() {
        SortedSolver x = new SortedSolver();
        x.rankF(1, 2, true);
        x.rankG(1, 2, 3, true);
        dueSorts("no constant fits", x, 1, 1, 1, 0, 0, 0, 0, 0, 0, 0, 0, 0, 0, 0, 0);
        x.constant(0, 1);
        dueSorts("constant 0 fits", x, 2, 1, 1, 4, 0, 0, 0, 0, 0, 0, 0, 0, 0, 0, 0);
        x.constant(2, 2);
        dueSorts("constant 2 fits", x, 2, 1, 4, 4, 0, 0, 0, 0, 8, 0, 0, 0, 0, 0, 0);
        x.below(0, 2);
        dueSorts("constant 1 too", x, 2, 5, 4, 4, 0, 0, 0, 8, 8, 0, 0, 0, 0, 0, 0);
        x.constant(0, 3);
        dueSorts("constant 0 no more", x, 8, 5, 4, 0, 0, 0, 0, 0, 0, 0, 0, 0, 0, 0, 0);
    }

    private static void sortsWrongInputs() {
        SortedSolver x = new SortedSolver();
        x.rankF(0, 0, true);
        x.rankG(0, 0, 0, true);
        int[] noThing = {-1, -3, 15, 16, 32, Integer.MIN_VALUE, Integer.MAX_VALUE};
        for (int wrong : noThing) {
            Check.due("sorts(" + wrong + ")", x.sorts(wrong), 0);
        }
        Check.due("sorts(14)", x.sorts(14), 1);
    }
}
