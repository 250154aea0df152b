import java.util.ArrayList;
import java.util.Arrays;
import java.util.List;
import java.util.TreeSet;

/**
 * What the document says, written in its own words and in another way than the
 * program: declared pairs are kept, terms are texts, and variables are replaced
 * in the text.
 */
final class Model {
    private final boolean[][] declared = new boolean[4][4];
    private final int[] constantSort = new int[3];
    private final int[] variableSort = new int[3];
    private final TreeSet<String> ranks = new TreeSet<>();
    private final List<List<Integer>> terms =
            List.of(new ArrayList<Integer>(), new ArrayList<Integer>());
    private List<int[]> known = null;

    private static boolean within(int n, int end) {
        return n >= 0 && n < end;
    }

    boolean below(int a, int b) {
        if (!within(a, 4) || !within(b, 4) || atMost(b, a)) {
            return false;
        }
        declared[a][b] = true;
        known = null;
        return true;
    }

    boolean atMost(int a, int b) {
        return within(a, 4) && within(b, 4) && comesTo(a, b, 4);
    }

    private boolean comesTo(int a, int b, int steps) {
        if (a == b) {
            return true;
        }
        for (int next = 0; steps > 0 && next < 4; next++) {
            if (declared[a][next] && comesTo(next, b, steps - 1)) {
                return true;
            }
        }
        return false;
    }

    boolean constant(int c, int s) {
        if (!within(c, 3) || !within(s, 4)) {
            return false;
        }
        constantSort[c] = s;
        known = null;
        return true;
    }

    boolean variable(int v, int s) {
        if (!within(v, 3) || !within(s, 4)) {
            return false;
        }
        variableSort[v] = s;
        known = null;
        return true;
    }

    boolean rankF(int s, int t, boolean on) {
        return within(s, 4) && within(t, 4) && setRank("f" + s + t, on);
    }

    boolean rankG(int s, int t, int u, boolean on) {
        return within(s, 4) && within(t, 4) && within(u, 4) && setRank("g" + s + t + u, on);
    }

    private boolean setRank(String rank, boolean on) {
        if (on) {
            ranks.add(rank);
        } else {
            ranks.remove(rank);
        }
        known = null;
        return true;
    }

    int feed(int side, int token) {
        if (!within(side, 2) || !within(token, 8) || complete(side) || terms.get(side).size() == 9) {
            return -1;
        }
        terms.get(side).add(token);
        known = null;
        return terms.get(side).size();
    }

    int back(int side) {
        if (!within(side, 2) || terms.get(side).isEmpty()) {
            return -1;
        }
        known = null;
        return terms.get(side).remove(terms.get(side).size() - 1);
    }

    boolean complete(int side) {
        return within(side, 2) && endOfTerm(terms.get(side), 0) == terms.get(side).size();
    }

    /** The other term's token at the place where a term goes on, -1 if it has none. */
    int tokenOpposite(int side) {
        if (!within(side, 2)) {
            return -1;
        }
        List<Integer> other = terms.get(1 - side);
        int place = terms.get(side).size();
        return place < other.size() ? other.get(place) : -1;
    }

    /** Where the term that begins at a place ends, -1 if the tokens end before. */
    private static int endOfTerm(List<Integer> tokens, int at) {
        if (at < 0 || at >= tokens.size()) {
            return -1;
        }
        switch (tokens.get(at)) {
            case 0:
                return endOfTerm(tokens, at + 1);
            case 1:
                return endOfTerm(tokens, endOfTerm(tokens, at + 1));
            default:
                return at + 1;
        }
    }

    private boolean constantHas(int c, int b) {
        return atMost(constantSort[c], b);
    }

    boolean has(int thing, int b) {
        if (thing < 3) {
            return constantHas(thing, b);
        }
        for (String rank : ranks) {
            int last = rank.length() - 1;
            boolean fits = rank.charAt(0) == (thing < 6 ? 'f' : 'g')
                    && atMost(rank.charAt(last) - '0', b);
            if (thing < 6) {
                fits = fits && constantHas(thing - 3, rank.charAt(1) - '0');
            } else {
                fits = fits && constantHas((thing - 6) / 3, rank.charAt(1) - '0')
                        && constantHas((thing - 6) % 3, rank.charAt(2) - '0');
            }
            if (fits) {
                return true;
            }
        }
        return false;
    }

    int sorts(int thing) {
        int bits = 0;
        for (int s = 0; within(thing, 15) && s < 4; s++) {
            bits += has(thing, s) ? 1 << s : 0;
        }
        return bits;
    }

    private static String textOfThing(int thing) {
        if (thing < 3) {
            return "c" + thing;
        }
        if (thing < 6) {
            return "f(c" + (thing - 3) + ")";
        }
        return "g(c" + (thing - 6) / 3 + ",c" + (thing - 6) % 3 + ")";
    }

    private static String textOfTerm(List<Integer> tokens, int at) {
        int token = tokens.get(at);
        if (token == 0) {
            return "f(" + textOfTerm(tokens, at + 1) + ")";
        }
        if (token == 1) {
            int second = endOfTerm(tokens, at + 1);
            return "g(" + textOfTerm(tokens, at + 1) + "," + textOfTerm(tokens, second) + ")";
        }
        return token < 5 ? "c" + (token - 2) : "v" + (token - 5);
    }

    private static String replaced(String term, int[] things) {
        String text = term;
        for (int v = 0; v < 3; v++) {
            text = text.replace("v" + v, textOfThing(things[v]));
        }
        return text;
    }

    private int[] thingsFor(int v) {
        int[] things = new int[15];
        int count = 0;
        for (int t = 0; t < 15; t++) {
            if (has(t, variableSort[v])) {
                things[count++] = t;
            }
        }
        return Arrays.copyOf(things, count);
    }

    /** All solutions, in the dictionary order. */
    private List<int[]> all() {
        if (known != null) {
            return known;
        }
        known = new ArrayList<>();
        if (!complete(0) || !complete(1)) {
            return known;
        }
        String left = textOfTerm(terms.get(0), 0);
        String right = textOfTerm(terms.get(1), 0);
        int[] second = thingsFor(1);
        int[] third = thingsFor(2);
        for (int a : thingsFor(0)) {
            for (int b : second) {
                for (int c : third) {
                    int[] things = {a, b, c};
                    if (replaced(left, things).equals(replaced(right, things))) {
                        known.add(things);
                    }
                }
            }
        }
        return known;
    }

    int solutions() {
        return all().size();
    }

    int first(int v) {
        return within(v, 3) && !all().isEmpty() ? all().get(0)[v] : -1;
    }

    int values(int v) {
        int bits = 0;
        for (int t = 0; within(v, 3) && t < 15; t++) {
            bits += solutionsWith(v, t) > 0 ? 1 << t : 0;
        }
        return bits;
    }

    int solutionsWith(int v, int t) {
        return within(v, 3) ? (int) all().stream().filter(s -> s[v] == t).count() : 0;
    }

    int solutionsAlike(int v, int w) {
        boolean both = within(v, 3) && within(w, 3);
        return both ? (int) all().stream().filter(s -> s[v] == s[w]).count() : 0;
    }
}
