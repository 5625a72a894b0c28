/** Promises 8, 9 and 18: arbiters that go down and come up, and what they do with letters. */
public final class ArbiterTest {
    private static final Check CHECK = new Check();
    private static final int NONE = PermitTree.NONE;

    public static void main(String[] args) {
        stopAndStart();
        downLosesWhatComes();
        downForgetsNothing();
        downDoesNotLoseWhatItSent();
        voteAnswers();
        voteRefuses();
        askOnce();
        sixteenWait();
        backFromTheRow();
        backOfAnother();
        numberOfAnother();
        numberIsNeverLowered();
        clientsOwnRunsWait();
        CHECK.end();
    }

    private static void stopAndStart() {
        PermitTree x = new PermitTree();
        for (int arbiter = 0; arbiter < 15; arbiter++) {
            CHECK.due("up: start", x.start(arbiter), false);
            CHECK.due("up: stop", x.stop(arbiter), true);
            CHECK.due("down: stop", x.stop(arbiter), false);
        }
        for (int arbiter = 0; arbiter < 15; arbiter++) {
            CHECK.due("down: start", x.start(arbiter), true);
            CHECK.due("up again: start", x.start(arbiter), false);
        }
        int[] wrong = {-1, 15, 31, 32, -32, Integer.MAX_VALUE, Integer.MIN_VALUE};
        for (int arbiter : wrong) {
            CHECK.due("stop of none such", x.stop(arbiter), false);
            CHECK.due("start of none such", x.start(arbiter), false);
        }
        CHECK.due("no other is down", x.stop(0), true);
    }

    private static void downLosesWhatComes() {
        PermitTree x = new PermitTree();
        x.want(0, 0);
        x.stop(0);
        CHECK.due("ASK comes", Yard.deliver(x, Yard.ASK, 0), true);
        CHECK.due("and is lost", x.letters(), 3);
        CHECK.due("no holder", x.vote(0, 0, 0), NONE);
        x.giveUp(0, 0);
        Yard.dropAll(x);

        x.start(0);
        x.want(0, 0);
        Yard.deliverTimes(x, 0, 8);
        x.stop(3);
        Yard.deliver(x, Yard.NUMBER, 3);
        CHECK.due("NUMBER is lost", x.vote(3, 0, 2), 0);
        CHECK.due("no STORED", Yard.find(x, Yard.STORED, 3), NONE);
        x.giveUp(0, 0);
        Yard.deliver(x, Yard.BACK, 3);
        CHECK.due("BACK is lost", x.vote(3, 0, 0), 0);

        PermitTree y = new PermitTree();
        Yard.hold(y, 1, 1);
        y.breakPermit(1, 1);
        y.stop(7);
        Yard.deliverAll(y);
        CHECK.due("BROKEN is lost", y.vote(7, 1, 0), 1);
        CHECK.due("not by the others", y.vote(3, 1, 0), NONE);
    }

    private static void downForgetsNothing() {
        PermitTree x = new PermitTree();
        Yard.hold(x, 2, 0);
        x.want(3, 0);
        Yard.deliverAll(x);
        x.stop(1);
        CHECK.due("down: holder", x.vote(1, 0, 0), 2);
        CHECK.due("down: stored", x.vote(1, 0, 2), 1);
        x.start(1);
        CHECK.due("up: holder", x.vote(1, 0, 0), 2);
        CHECK.due("up: its run", x.vote(1, 0, 1), 1);
        CHECK.due("up: stored", x.vote(1, 0, 2), 1);
        CHECK.due("up: first waiting", x.vote(1, 0, 4), 3);
        x.release(2, 0);
        Yard.deliverAll(x);
        CHECK.due("and it works on", x.state(3, 0), 3);
    }

    private static void downDoesNotLoseWhatItSent() {
        PermitTree x = new PermitTree();
        x.want(0, 0);
        x.stop(0);
        x.start(0);
        Yard.deliver(x, Yard.ASK, 0);
        CHECK.due("up when it comes", x.vote(0, 0, 0), 0);
        x.stop(0);
        Yard.deliver(x, Yard.VOTE, 0);
        CHECK.due("its vote comes", x.quorumOf(0, 0), Yard.bits(0));
    }

    private static void voteAnswers() {
        PermitTree x = new PermitTree();
        x.want(4, 2);
        x.giveUp(4, 2);
        Yard.deliverAll(x);
        Yard.hold(x, 4, 2);
        x.want(6, 2);
        x.want(5, 2);
        Yard.deliverAll(x);
        for (int arbiter : new int[] {0, 1, 3, 7}) {
            CHECK.due("the holder", x.vote(arbiter, 2, 0), 4);
            CHECK.due("its run", x.vote(arbiter, 2, 1), 2);
            CHECK.due("stored", x.vote(arbiter, 2, 2), 1);
            CHECK.due("two wait", x.vote(arbiter, 2, 3), 2);
            CHECK.due("first come first", x.vote(arbiter, 2, 4), 6);
            CHECK.due("another crane", x.vote(arbiter, 1, 0), NONE);
        }
        CHECK.due("one that was not asked: holder", x.vote(2, 2, 0), NONE);
        CHECK.due("one that was not asked: run", x.vote(2, 2, 1), NONE);
        CHECK.due("one that was not asked: stored", x.vote(2, 2, 2), 0);
        CHECK.due("one that was not asked: waiting", x.vote(2, 2, 3), 0);
        CHECK.due("one that was not asked: first", x.vote(2, 2, 4), NONE);
        x.release(4, 2);
        Yard.deliverTimes(x, 0, 4);
        CHECK.due("the first gets the votes", Yard.texts(x),
                "2 6 2 1 0 1, 2 6 2 1 1 1, 2 6 2 1 3 1, 2 6 2 1 7 1");
        CHECK.due("one waits", x.vote(0, 2, 3), 1);
        CHECK.due("the next", x.vote(0, 2, 4), 5);
    }

    private static void voteRefuses() {
        PermitTree x = new PermitTree();
        Yard.hold(x, 0, 0);
        for (int what = 0; what < 5; what++) {
            CHECK.due("arbiter -1", x.vote(-1, 0, what), NONE);
            CHECK.due("arbiter 15", x.vote(15, 0, what), NONE);
            CHECK.due("crane -1", x.vote(0, -1, what), NONE);
            CHECK.due("crane 4", x.vote(0, 4, what), NONE);
        }
        CHECK.due("what -1", x.vote(0, 0, -1), NONE);
        CHECK.due("what 5", x.vote(0, 0, 5), NONE);
        CHECK.due("what, greatest", x.vote(0, 0, Integer.MAX_VALUE), NONE);
        CHECK.due("the last of both", x.vote(14, 3, 2), 0);
    }

    private static void askOnce() {
        PermitTree x = new PermitTree();
        x.want(0, 0);
        x.want(1, 0);
        x.copy(0);
        x.copy(4);
        CHECK.due("copies of both", Yard.text(x, 8) + ", " + Yard.text(x, 9),
                "1 0 0 1 0 0, 1 1 0 1 0 0");
        x.deliver(0);
        x.deliver(3);
        CHECK.due("7 left and a vote", x.letters(), 9);
        CHECK.due("1 waits", x.vote(0, 0, 3), 1);
        x.deliver(6);
        CHECK.due("the holder again: nothing", x.letters(), 8);
        CHECK.due("it does not wait", x.vote(0, 0, 3), 1);
        x.deliver(6);
        CHECK.due("who waits again: nothing", x.letters(), 7);
        CHECK.due("once in the row", x.vote(0, 0, 3), 1);
    }

    /** A client's runs that it gave up, with their BACK lost, fill the row of the root. */
    private static void sixteenWait() {
        PermitTree x = new PermitTree();
        for (int run = 1; run <= 19; run++) {
            CHECK.due("the run", x.want(0, 0), run);
            x.deliver(0);
            int wait = Math.min(run - 1, 16);
            CHECK.due("so many wait", x.vote(0, 0, 3), wait);
            CHECK.due("the first holds", x.vote(0, 0, 1), 1);
            CHECK.due("a vote for the first alone", x.letters(), run == 1 ? 4 : 3);
            x.giveUp(0, 0);
            Yard.dropAll(x);
        }
        x.want(1, 0);
        x.deliver(0);
        CHECK.due("no place for another", x.vote(0, 0, 3), 16);
        Yard.dropAll(x);
        x.giveUp(1, 0);
        x.deliver(0);
        CHECK.due("its BACK changes nothing", x.vote(0, 0, 3), 16);
        Yard.dropAll(x);
    }

    private static void backFromTheRow() {
        PermitTree x = new PermitTree();
        Yard.hold(x, 0, 0);
        for (int client = 1; client <= 4; client++) {
            x.want(client, 0);
            Yard.deliverAll(x);
        }
        CHECK.due("four wait", x.vote(0, 0, 3), 4);
        x.giveUp(2, 0);
        Yard.deliverAll(x);
        CHECK.due("three wait", x.vote(0, 0, 3), 3);
        CHECK.due("the holder is the same", x.vote(0, 0, 0), 0);
        CHECK.due("the first is the same", x.vote(0, 0, 4), 1);
        x.giveUp(1, 0);
        Yard.deliverAll(x);
        CHECK.due("the next is first", x.vote(0, 0, 4), 3);
        x.giveUp(4, 0);
        Yard.deliverAll(x);
        CHECK.due("one waits", x.vote(0, 0, 3), 1);
        x.release(0, 0);
        Yard.deliverAll(x);
        CHECK.due("it holds", x.state(3, 0), 3);
        CHECK.due("its number", x.permit(3, 0), 2);
        CHECK.due("nobody waits", x.vote(0, 0, 4), NONE);
    }

    private static void backOfAnother() {
        PermitTree x = new PermitTree();
        x.want(0, 0);
        x.giveUp(0, 0);
        for (int i = 0; i < 4; i++) {
            x.drop(0);
        }
        x.copy(0);
        x.copy(0);
        CHECK.due("three BACKs of run 1 to the root", Yard.text(x, 5), "5 0 0 1 0 0");
        x.deliver(0);
        CHECK.due("nothing without a holder", x.letters(), 5);
        x.want(0, 0);
        Yard.deliver(x, Yard.ASK, 0);
        CHECK.due("run 2 holds", x.vote(0, 0, 1), 2);
        Yard.deliver(x, Yard.BACK, 0);
        CHECK.due("BACK of run 1 is not of run 2", x.vote(0, 0, 1), 2);
        x.want(1, 0);
        Yard.deliver(x, Yard.ASK, 0);
        Yard.deliver(x, Yard.BACK, 0);
        CHECK.due("nor of who waits", x.vote(0, 0, 3), 1);
    }

    private static void numberOfAnother() {
        PermitTree x = new PermitTree();
        x.want(0, 0);
        Yard.deliverTimes(x, 0, 8);
        x.giveUp(0, 0);
        Yard.deliver(x, Yard.BACK, 0);
        int before = x.letters();
        Yard.deliver(x, Yard.NUMBER, 0);
        CHECK.due("no holder: nothing stored", x.vote(0, 0, 2), 0);
        CHECK.due("no holder: no STORED", x.letters(), before - 1);
        x.want(0, 0);
        Yard.deliver(x, Yard.BACK, 1);
        Yard.deliver(x, Yard.ASK, 1);
        CHECK.due("run 2 holds", x.vote(1, 0, 1), 2);
        before = x.letters();
        Yard.deliver(x, Yard.NUMBER, 1);
        CHECK.due("another run: nothing stored", x.vote(1, 0, 2), 0);
        CHECK.due("another run: no STORED", x.letters(), before - 1);
        Yard.deliver(x, Yard.NUMBER, 3);
        CHECK.due("its BACK did not come: stored", x.vote(3, 0, 2), 1);
        CHECK.due("and STORED", Yard.text(x, x.letters() - 1), "4 0 0 1 3 0");
    }

    /** A copy of NUMBER of the holder is answered too, and changes nothing. */
    private static void numberIsNeverLowered() {
        PermitTree x = new PermitTree();
        Yard.hold(x, 0, 0);
        x.release(0, 0);
        Yard.deliverAll(x);
        x.want(1, 0);
        Yard.deliverTimes(x, 0, 8);
        CHECK.due("the second number", x.letter(0, 5), 2);
        x.copy(0);
        x.deliver(0);
        CHECK.due("stored", x.vote(0, 0, 2), 2);
        CHECK.due("a copy comes", x.deliver(3), true);
        CHECK.due("stored still", x.vote(0, 0, 2), 2);
        CHECK.due("STORED twice", Yard.text(x, 3) + ", " + Yard.text(x, 4),
                "4 1 0 1 0 0, 4 1 0 1 0 0");
    }

    private static void clientsOwnRunsWait() {
        PermitTree x = new PermitTree();
        x.want(0, 0);
        x.deliver(0);
        x.giveUp(0, 0);
        Yard.dropAll(x);
        x.want(0, 0);
        x.deliver(0);
        CHECK.due("run 1 holds", x.vote(0, 0, 1), 1);
        CHECK.due("run 2 waits", x.vote(0, 0, 3), 1);
        CHECK.due("the same client", x.vote(0, 0, 4), 0);
    }

    private ArbiterTest() {
    }
}
