/** Promises 6 and 7: permits that are broken, and orders. */
public final class PermitTest {
    private static final Check CHECK = new Check();
    private static final int NONE = PermitTree.NONE;

    public static void main(String[] args) {
        breakTellsAll();
        breakRefuses();
        brokenFreesTheVotes();
        brokenTakesOutOfTheRow();
        orderGoesToTheCrane();
        orderRefuses();
        orderOfABrokenPermit();
        orderOverAFullPost();
        CHECK.end();
    }

    private static void breakTellsAll() {
        PermitTree x = new PermitTree();
        x.want(6, 2);
        x.giveUp(6, 2);
        Yard.deliverAll(x);
        Yard.hold(x, 6, 2);
        CHECK.due("breakPermit(2, 1)", x.breakPermit(2, 1), 6);
        CHECK.due("16 letters", x.letters(), 16);
        for (int arbiter = 0; arbiter < 15; arbiter++) {
            CHECK.due("to arbiter " + arbiter, Yard.text(x, arbiter), "6 6 2 2 " + arbiter + " 1");
        }
        CHECK.due("to the crane", Yard.text(x, 15), "7 6 2 2 -1 1");
        CHECK.due("broken at once", x.state(6, 2), 4);
        CHECK.due("it holds the number still", x.permit(6, 2), 1);
        CHECK.due("the crane hears it later", x.highest(2), 0);
    }

    private static void breakRefuses() {
        PermitTree x = new PermitTree();
        CHECK.due("nobody holds 0", x.breakPermit(0, 0), NONE);
        CHECK.due("nobody holds 1", x.breakPermit(0, 1), NONE);
        x.want(3, 0);
        Yard.deliverTimes(x, 0, 8);
        CHECK.due("who writes does not hold", x.breakPermit(0, 1), NONE);
        CHECK.due("nothing happens", x.letters(), 4);
        Yard.deliverAll(x);
        CHECK.due("another number", x.breakPermit(0, 2), NONE);
        CHECK.due("another crane", x.breakPermit(1, 1), NONE);
        CHECK.due("crane -1", x.breakPermit(-1, 1), NONE);
        CHECK.due("crane 4", x.breakPermit(4, 1), NONE);
        CHECK.due("no letters", x.letters(), 0);
        CHECK.due("the right one", x.breakPermit(0, 1), 3);
        CHECK.due("it is broken already", x.breakPermit(0, 1), NONE);
        CHECK.due("no letters more", x.letters(), 16);
        x.release(3, 0);
        CHECK.due("after the release", x.breakPermit(0, 1), NONE);
        Yard.deliverAll(x);
        Yard.hold(x, 4, 0);
        x.release(4, 0);
        Yard.deliverAll(x);
        CHECK.due("a released number", x.breakPermit(0, 2), NONE);
    }

    private static void brokenFreesTheVotes() {
        PermitTree x = new PermitTree();
        Yard.hold(x, 0, 0);
        x.want(1, 0);
        Yard.deliverAll(x);
        CHECK.due("1 waits", x.state(1, 0), 1);
        x.breakPermit(0, 1);
        Yard.deliverAll(x);
        CHECK.due("1 holds the next", x.state(1, 0), 3);
        CHECK.due("with a higher number", x.permit(1, 0), 2);
        CHECK.due("0 holds what is broken", x.state(0, 0), 4);
        CHECK.due("both on the same quorum", x.quorumOf(0, 0), x.quorumOf(1, 0));
        CHECK.due("2 is broken by its holder", x.breakPermit(0, 2), 1);
        Yard.deliverAll(x);
        x.release(0, 0);
        Yard.deliverAll(x);
        CHECK.due("0 is away", x.state(0, 0), 0);
        CHECK.due("1 is not", x.state(1, 0), 4);
    }

    /** A run whose permit is broken may wait at an arbiter that was asked and then silent. */
    private static void brokenTakesOutOfTheRow() {
        PermitTree x = new PermitTree();
        Yard.hold(x, 0, 0);
        x.release(0, 0);
        x.want(1, 0);
        Yard.drop(x, Yard.BACK, 7);
        x.timeout(1, 0, 7);
        Yard.deliverAll(x);
        CHECK.due("1 holds without 7", x.quorumOf(1, 0), Yard.bits(0, 1, 3, 8));
        CHECK.due("where 0 never left", x.vote(7, 0, 0), 0);
        CHECK.due("and 1 waits", x.vote(7, 0, 4), 1);
        x.breakPermit(0, 2);
        Yard.deliver(x, Yard.BROKEN_TO_ARBITER, 7);
        CHECK.due("1 waits no more", x.vote(7, 0, 3), 0);
        CHECK.due("0 stays there", x.vote(7, 0, 0), 0);
        int before = x.letters();
        Yard.deliver(x, Yard.BROKEN_TO_ARBITER, 14);
        CHECK.due("nothing where it was never asked", x.letters(), before - 1);
    }

    private static void orderGoesToTheCrane() {
        PermitTree x = new PermitTree();
        Yard.hold(x, 5, 3);
        CHECK.due("order(5, 3, -9)", x.order(5, 3, -9), true);
        CHECK.due("the letter", Yard.texts(x), "8 5 3 1 -1 1");
        CHECK.due("not done before it comes", x.orders(3), 0);
        x.deliver(0);
        CHECK.due("done", x.orders(3), 1);
        CHECK.due("its number", x.done(3, 0, 0), 1);
        CHECK.due("its code", x.done(3, 0, 1), -9);
        x.order(5, 3, 1);
        x.release(5, 3);
        x.deliver(0);
        CHECK.due("a late one is done, if nothing higher was", x.done(3, 1, 1), 1);
    }

    private static void orderRefuses() {
        PermitTree x = new PermitTree();
        CHECK.due("not at it", x.order(0, 0, 1), false);
        CHECK.due("client -1", x.order(-1, 0, 1), false);
        CHECK.due("client 8", x.order(8, 0, 1), false);
        CHECK.due("crane -1", x.order(0, -1, 1), false);
        CHECK.due("crane 4", x.order(0, 4, 1), false);
        x.want(0, 0);
        CHECK.due("while asking", x.order(0, 0, 1), false);
        Yard.deliverTimes(x, 0, 8);
        CHECK.due("while writing", x.order(0, 0, 1), false);
        CHECK.due("four letters alone", x.letters(), 4);
        Yard.deliverAll(x);
        CHECK.due("while holding", x.order(0, 0, 1), true);
        CHECK.due("at another crane", x.order(0, 1, 1), false);
        x.release(0, 0);
        CHECK.due("after the release", x.order(0, 0, 1), false);
    }

    private static void orderOfABrokenPermit() {
        PermitTree x = new PermitTree();
        Yard.hold(x, 0, 0);
        x.breakPermit(0, 1);
        CHECK.due("it does not know", x.order(0, 0, 7), true);
        CHECK.due("the letter", Yard.text(x, 16), "8 0 0 1 -1 1");
        x.deliver(16);
        CHECK.due("the crane was not told yet", x.orders(0), 1);
        x.order(0, 0, 8);
        Yard.deliverAll(x);
        CHECK.due("it was told", x.orders(0), 1);
        CHECK.due("the highest", x.highest(0), 1);
    }

    private static void orderOverAFullPost() {
        PermitTree x = new PermitTree();
        Yard.hold(x, 0, 0);
        Yard.fillPost(x, 1);
        CHECK.due("the post is full", x.letters(), 240);
        String last = Yard.text(x, 239);
        CHECK.due("sent", x.order(0, 0, 77), true);
        CHECK.due("and lost", x.letters(), 240);
        CHECK.due("the last letter stays", Yard.text(x, 239), last);
        x.drop(0);
        CHECK.due("sent again", x.order(0, 0, 78), true);
        CHECK.due("on its way", x.letter(239, 0), Yard.ORDER);
        CHECK.due("sent once more", x.order(0, 0, 79), true);
        x.deliver(239);
        CHECK.due("the lost one's code is lost with it", x.done(0, 0, 1), 78);
    }

    private PermitTest() {
    }
}
