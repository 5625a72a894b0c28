import java.util.Set;
import java.util.TreeSet;

/** The route from the root (promises 2, 3 and 17), for every set of arbiters that are silent. */
public final class RouteTest {
    private static final Check CHECK = new Check();
    private static final int ARBITERS = 15;

    public static void main(String[] args) {
        eachLeafInItsTurn();
        leftElseRight();
        silentTakesBoth();
        noneIfNeitherHasOne();
        noneOfSilentIfOneHasNone();
        allRoutes();
        CHECK.end();
    }

    // Of a leaf that is not silent: it alone. Of a silent one there is none.

    private static void eachLeafInItsTurn() {
        int leavesBefore = 0;
        int[] parents = {3, 3, 4, 4, 5, 5, 6, 6};
        for (int leaf = 7; leaf < ARBITERS; leaf++) {
            int half = leaf < 11 ? 1 : 2;
            due(leavesBefore, Yard.bits(0, half, parents[leaf - 7], leaf));
            leavesBefore |= 1 << leaf;
        }
        due(leavesBefore, 0);
    }

    // Of another one that is not silent: it and a route from its left one, else its right one.

    private static void leftElseRight() {
        due(Yard.bits(), Yard.bits(0, 1, 3, 7));
        due(Yard.bits(7), Yard.bits(0, 1, 3, 8));
        due(Yard.bits(8), Yard.bits(0, 1, 3, 7));
        due(Yard.bits(7, 8), Yard.bits(0, 1, 4, 9));
        due(Yard.bits(3, 7), Yard.bits(0, 1, 4, 9));
        due(Yard.bits(3, 8), Yard.bits(0, 1, 4, 9));
        due(Yard.bits(1, 7, 8), Yard.bits(0, 2, 5, 11));
        due(Yard.bits(1, 9, 10), Yard.bits(0, 2, 5, 11));
        due(Yard.bits(7, 8, 9, 10, 11, 12, 13), Yard.bits(0, 2, 6, 14));
    }

    // Of one that is silent: the routes from both below it together.

    private static void silentTakesBoth() {
        due(Yard.bits(3), Yard.bits(0, 1, 7, 8));
        due(Yard.bits(1), Yard.bits(0, 3, 7, 4, 9));
        due(Yard.bits(1, 9), Yard.bits(0, 3, 7, 4, 10));
        due(Yard.bits(0), Yard.bits(1, 3, 7, 2, 5, 11));
        due(Yard.bits(0, 1), Yard.bits(3, 7, 4, 9, 2, 5, 11));
        due(Yard.bits(0, 1, 2), Yard.bits(3, 7, 4, 9, 5, 11, 6, 13));
        due(Yard.bits(7, 8, 9, 10, 11, 12, 6), Yard.bits(0, 2, 13, 14));
        due(Yard.bits(0, 1, 2, 3, 4, 5, 6), Yard.bits(7, 8, 9, 10, 11, 12, 13, 14));
    }

    // There is none of one that is not silent if neither below has one.

    private static void noneIfNeitherHasOne() {
        due(Yard.bits(7, 8, 9, 10, 11, 12, 13, 14), 0);
        due(Yard.bits(1, 2, 7, 8, 13, 14), 0);
        due(Yard.bits(1, 2, 7, 8, 13), Yard.bits(0, 5, 11, 6, 14));
        due(Yard.bits(3, 4, 5, 6, 7, 9, 11, 13), 0);
        due(Yard.bits(3, 4, 5, 6, 7, 9, 11), Yard.bits(0, 2, 13, 14));
    }

    // There is none of a silent one if one of the two has none.

    private static void noneOfSilentIfOneHasNone() {
        due(Yard.bits(0, 7, 8, 9, 10), 0);
        due(Yard.bits(0, 7, 8, 9), Yard.bits(1, 4, 10, 2, 5, 11));
        due(Yard.bits(0, 11, 12, 13, 14), 0);
        due(Yard.bits(0, 11, 12, 13), Yard.bits(1, 3, 7, 2, 6, 14));
        due(Yard.bits(0, 1, 2, 3, 4, 5, 6, 7), 0);
        due(Yard.bits(0, 1, 2, 3, 4, 5, 6, 14), 0);
        due((1 << ARBITERS) - 1, 0);
    }

    private static void allRoutes() {
        for (int silent = 0; silent < 1 << ARBITERS; silent++) {
            Set<Integer> route = route(0, silent);
            int set = 0;
            if (route != null) {
                for (int arbiter : route) {
                    set |= 1 << arbiter;
                }
            }
            due(silent, set);
        }
    }

    /** The document's words, on sets; null where there is none. */
    private static Set<Integer> route(int arbiter, int silent) {
        boolean leaf = 2 * arbiter + 1 >= ARBITERS;
        boolean speaks = (silent & 1 << arbiter) == 0;
        Set<Integer> found = new TreeSet<>();
        if (leaf) {
            found.add(arbiter);
            return speaks ? found : null;
        }
        Set<Integer> left = route(2 * arbiter + 1, silent);
        Set<Integer> right = route(2 * arbiter + 2, silent);
        if (!speaks) {
            if (left == null || right == null) {
                return null;
            }
            found.addAll(left);
            found.addAll(right);
            return found;
        }
        if (left == null && right == null) {
            return null;
        }
        found.add(arbiter);
        found.addAll(left != null ? left : right);
        return found;
    }

    private static void due(int silent, int route) {
        PermitTree x = new PermitTree();
        x.want(0, 0);
        for (int arbiter = 0; arbiter < ARBITERS; arbiter++) {
            if ((silent & 1 << arbiter) != 0) {
                x.timeout(0, 0, arbiter);
            }
        }
        Yard.deliverAll(x);
        String silentOnes = "silent " + Integer.toBinaryString(silent);
        CHECK.due(silentOnes + ": state", x.state(0, 0), route == 0 ? 1 : 3);
        CHECK.due(silentOnes + ": quorumOf", x.quorumOf(0, 0), route);
    }

    private RouteTest() {
    }
}
