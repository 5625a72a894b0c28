/** Steps that many tests take. */
final class Yard {
    static final int ASK = 1;
    static final int VOTE = 2;
    static final int NUMBER = 3;
    static final int STORED = 4;
    static final int BACK = 5;
    static final int BROKEN_TO_ARBITER = 6;
    static final int BROKEN_TO_CRANE = 7;
    static final int ORDER = 8;

    static final int POST_LIMIT = 240;

    private Yard() {
    }

    static int bits(int... arbiters) {
        int set = 0;
        for (int arbiter : arbiters) {
            set |= 1 << arbiter;
        }
        return set;
    }

    /** Delivers the first letter until none is left; what comes of them too. */
    static void deliverAll(PermitTree tree) {
        for (int i = 0; i < 5000 && tree.letters() > 0; i++) {
            tree.deliver(0);
        }
    }

    /** Delivers what is at a place, so many times. */
    static void deliverTimes(PermitTree tree, int place, int times) {
        for (int i = 0; i < times; i++) {
            tree.deliver(place);
        }
    }

    static void dropAll(PermitTree tree) {
        for (int i = tree.letters() - 1; i >= 0; i--) {
            tree.drop(i);
        }
    }

    /** The place of the first letter of a kind to or from an arbiter, NONE if there is none. */
    static int find(PermitTree tree, int kind, int arbiter) {
        for (int i = 0; i < tree.letters(); i++) {
            if (tree.letter(i, 0) == kind && tree.letter(i, 4) == arbiter) {
                return i;
            }
        }
        return PermitTree.NONE;
    }

    static boolean deliver(PermitTree tree, int kind, int arbiter) {
        return tree.deliver(find(tree, kind, arbiter));
    }

    static boolean drop(PermitTree tree, int kind, int arbiter) {
        return tree.drop(find(tree, kind, arbiter));
    }

    /** The arbiters of all letters of a kind, bit k for arbiter k. */
    static int arbitersOf(PermitTree tree, int kind) {
        int set = 0;
        for (int i = 0; i < tree.letters(); i++) {
            if (tree.letter(i, 0) == kind) {
                set |= 1 << tree.letter(i, 4);
            }
        }
        return set;
    }

    static void hold(PermitTree tree, int client, int crane) {
        tree.want(client, crane);
        deliverAll(tree);
    }

    /** Every client wants a crane and gives it up, in turns, until no letter more has a place. */
    static void fillPost(PermitTree tree, int crane) {
        for (int round = 0; round < 100 && tree.letters() < POST_LIMIT; round++) {
            int client = round % 8;
            if (tree.want(client, crane) == PermitTree.NONE) {
                tree.giveUp(client, crane);
            }
        }
    }

    /** The six answers about a letter in one text. */
    static String text(PermitTree tree, int i) {
        StringBuilder text = new StringBuilder();
        for (int what = 0; what < 6; what++) {
            text.append(what == 0 ? "" : " ").append(tree.letter(i, what));
        }
        return text.toString();
    }

    static String texts(PermitTree tree) {
        StringBuilder all = new StringBuilder();
        for (int i = 0; i < tree.letters(); i++) {
            all.append(i == 0 ? "" : ", ").append(text(tree, i));
        }
        return all.toString();
    }
}
