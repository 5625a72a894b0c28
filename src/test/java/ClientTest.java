/** Promises 1 to 5 and 15 to 17: a client on its way to a permit and away from it. */
public final class ClientTest {
    private static final Check CHECK = new Check();
    private static final int NONE = PermitTree.NONE;

    public static void main(String[] args) {
        newObject();
        wantAsksTheRoute();
        runsCountForEachClient();
        wantRefuses();
        votesMakeItWriting();
        storedMakesItHolding();
        numberIsAboveAllVotes();
        timeoutAsksOnlyTheNew();
        timeoutKeepsVotes();
        timeoutRefuses();
        noRouteNoPermit();
        giveUpSendsBackToAllAsked();
        giveUpRefuses();
        releaseEndsTheRun();
        releaseRefuses();
        lateVoteIsSentBack();
        laterVoteOfTheRunIsNothing();
        lateStoredIsNothing();
        silentOneIsNotOfTheQuorum();
        stateRefuses();
        permitAndQuorumRefuse();
        cranesDoNotMix();
        newRunForgetsTheOld();
        CHECK.end();
    }

    private static void newObject() {
        PermitTree x = new PermitTree();
        CHECK.due("new: letters()", x.letters(), 0);
        for (int crane = 0; crane < 4; crane++) {
            for (int client = 0; client < 8; client++) {
                CHECK.due("new: state", x.state(client, crane), 0);
                CHECK.due("new: permit", x.permit(client, crane), 0);
                CHECK.due("new: quorumOf", x.quorumOf(client, crane), 0);
            }
            for (int arbiter = 0; arbiter < 15; arbiter++) {
                CHECK.due("new: holder", x.vote(arbiter, crane, 0), NONE);
                CHECK.due("new: its run", x.vote(arbiter, crane, 1), NONE);
                CHECK.due("new: stored", x.vote(arbiter, crane, 2), 0);
                CHECK.due("new: waiting", x.vote(arbiter, crane, 3), 0);
                CHECK.due("new: first waiting", x.vote(arbiter, crane, 4), NONE);
            }
            CHECK.due("new: orders", x.orders(crane), 0);
            CHECK.due("new: highest", x.highest(crane), 0);
            CHECK.due("new: done", x.done(crane, 0, 0), NONE);
        }
        for (int arbiter = 0; arbiter < 15; arbiter++) {
            CHECK.due("new: start, for it is up", x.start(arbiter), false);
        }
    }

    private static void wantAsksTheRoute() {
        PermitTree x = new PermitTree();
        CHECK.due("want(5, 2)", x.want(5, 2), 1);
        CHECK.due("the letters", Yard.texts(x),
                "1 5 2 1 0 0, 1 5 2 1 1 0, 1 5 2 1 3 0, 1 5 2 1 7 0");
        CHECK.due("asking", x.state(5, 2), 1);
        CHECK.due("no permit yet", x.permit(5, 2), 0);
        CHECK.due("no votes yet", x.quorumOf(5, 2), 0);
    }

    private static void runsCountForEachClient() {
        PermitTree x = new PermitTree();
        CHECK.due("first run", x.want(3, 0), 1);
        CHECK.due("second run, another crane", x.want(3, 1), 2);
        CHECK.due("another client's first", x.want(4, 1), 1);
        CHECK.due("refused", x.want(3, 1), NONE);
        CHECK.due("refused too", x.want(3, 4), NONE);
        CHECK.due("a refused one takes no number", x.want(3, 2), 3);
        x.giveUp(3, 0);
        CHECK.due("an ended one is not used again", x.want(3, 0), 4);
    }

    private static void wantRefuses() {
        PermitTree x = new PermitTree();
        int[][] wrong = {{-1, 0}, {8, 0}, {0, -1}, {0, 4}, {Integer.MIN_VALUE, 0},
            {0, Integer.MAX_VALUE}, {Integer.MAX_VALUE, Integer.MIN_VALUE}};
        for (int[] pair : wrong) {
            CHECK.due("want of none such", x.want(pair[0], pair[1]), NONE);
        }
        CHECK.due("and no letters", x.letters(), 0);
        CHECK.due("the last of both", x.want(7, 3), 1);
        CHECK.due("while asking", x.want(7, 3), NONE);
        CHECK.due("no more letters", x.letters(), 4);
        while (x.state(7, 3) == 1) {
            x.deliver(0);
        }
        CHECK.due("it is writing", x.state(7, 3), 2);
        CHECK.due("while writing", x.want(7, 3), NONE);
        Yard.deliverAll(x);
        CHECK.due("while holding", x.want(7, 3), NONE);
        CHECK.due("it still holds", x.state(7, 3), 3);
        x.breakPermit(3, 1);
        CHECK.due("while holding what is broken", x.want(7, 3), NONE);
    }

    private static void votesMakeItWriting() {
        PermitTree x = new PermitTree();
        x.want(0, 0);
        Yard.deliverTimes(x, 0, 4);
        CHECK.due("the votes", Yard.texts(x),
                "2 0 0 1 0 0, 2 0 0 1 1 0, 2 0 0 1 3 0, 2 0 0 1 7 0");
        Yard.deliver(x, Yard.VOTE, 3);
        CHECK.due("one vote", x.quorumOf(0, 0), Yard.bits(3));
        Yard.deliver(x, Yard.VOTE, 0);
        Yard.deliver(x, Yard.VOTE, 7);
        CHECK.due("three votes", x.quorumOf(0, 0), Yard.bits(0, 3, 7));
        CHECK.due("still asking", x.state(0, 0), 1);
        Yard.deliver(x, Yard.VOTE, 1);
        CHECK.due("writing", x.state(0, 0), 2);
        CHECK.due("the quorum", x.quorumOf(0, 0), Yard.bits(0, 1, 3, 7));
        CHECK.due("no permit while writing", x.permit(0, 0), 0);
        CHECK.due("the numbers", Yard.texts(x),
                "3 0 0 1 0 1, 3 0 0 1 1 1, 3 0 0 1 3 1, 3 0 0 1 7 1");
    }

    private static void storedMakesItHolding() {
        PermitTree x = writing(0, 0);
        Yard.deliverTimes(x, 0, 4);
        CHECK.due("all stored", Yard.texts(x),
                "4 0 0 1 0 0, 4 0 0 1 1 0, 4 0 0 1 3 0, 4 0 0 1 7 0");
        x.copy(0);
        Yard.deliverTimes(x, 0, 3);
        Yard.deliver(x, Yard.STORED, 0);
        CHECK.due("a doubled one counts once", x.state(0, 0), 2);
        CHECK.due("no permit yet", x.permit(0, 0), 0);
        Yard.deliver(x, Yard.STORED, 7);
        CHECK.due("holding", x.state(0, 0), 3);
        CHECK.due("its number", x.permit(0, 0), 1);
        CHECK.due("its quorum", x.quorumOf(0, 0), Yard.bits(0, 1, 3, 7));
        CHECK.due("nothing more to say", x.letters(), 0);
        storedMustComeInThisRun();
        storedAfterAll();
    }

    private static void storedMustComeInThisRun() {
        PermitTree x = writing(0, 0);
        Yard.deliver(x, Yard.NUMBER, 3);
        Yard.deliver(x, Yard.STORED, 3);
        x.giveUp(0, 0);
        Yard.deliverAll(x);
        x.want(0, 0);
        Yard.deliverTimes(x, 0, 8);
        Yard.drop(x, Yard.NUMBER, 3);
        Yard.deliverAll(x);
        CHECK.due("3 stored for the first run only", x.state(0, 0), 2);
    }

    private static void storedAfterAll() {
        PermitTree x = writing(0, 0);
        Yard.deliverTimes(x, 0, 4);
        x.copy(0);
        x.copy(0);
        Yard.deliverTimes(x, 0, 4);
        CHECK.due("holding", x.state(0, 0), 3);
        x.deliver(0);
        CHECK.due("one more changes nothing", x.state(0, 0), 3);
        x.breakPermit(0, 1);
        x.deliver(0);
        CHECK.due("nor if it is broken", x.state(0, 0), 4);
    }

    private static void numberIsAboveAllVotes() {
        PermitTree x = new PermitTree();
        for (int client = 0; client < 3; client++) {
            Yard.hold(x, client, 0);
            CHECK.due("each number is higher", x.permit(client, 0), client + 1);
            x.release(client, 0);
            Yard.deliverAll(x);
        }
        x.want(5, 0);
        x.timeout(5, 0, 7);
        CHECK.due("a silent one's sibling", Yard.arbitersOf(x, Yard.ASK), Yard.bits(0, 1, 3, 7, 8));
        Yard.deliver(x, Yard.ASK, 7);
        Yard.deliver(x, Yard.VOTE, 7);
        CHECK.due("not of its route", x.quorumOf(5, 0), 0);
        Yard.deliverAll(x);
        CHECK.due("without the silent one", x.quorumOf(5, 0), Yard.bits(0, 1, 3, 8));
        CHECK.due("above all of its route", x.permit(5, 0), 4);
        CHECK.due("the one beside it", x.vote(8, 0, 2), 4);
        CHECK.due("the silent one is not told", x.vote(7, 0, 2), 3);
        voteOutsideTheRouteCounts();
    }

    /** Only arbiter 7 knows a number, and is silent before or after its vote has come. */
    private static void voteOutsideTheRouteCounts() {
        for (boolean before : new boolean[] {true, false}) {
            PermitTree x = onlySevenStored();
            x.want(1, 0);
            Yard.deliver(x, Yard.ASK, 7);
            if (before) {
                x.timeout(1, 0, 7);
            }
            Yard.deliver(x, Yard.VOTE, 7);
            if (!before) {
                x.timeout(1, 0, 7);
            }
            CHECK.due("its vote is not of the route", x.quorumOf(1, 0), 0);
            Yard.deliverAll(x);
            CHECK.due("the quorum", x.quorumOf(1, 0), Yard.bits(0, 1, 3, 8));
            CHECK.due("but its number counts", x.permit(1, 0), 2);
        }
        PermitTree y = onlySevenStored();
        y.want(1, 0);
        Yard.drop(y, Yard.ASK, 7);
        y.timeout(1, 0, 7);
        Yard.deliverAll(y);
        CHECK.due("if its vote never came, it does not", y.permit(1, 0), 1);
        votesOfAnEarlierRunDoNotCount();
    }

    private static void votesOfAnEarlierRunDoNotCount() {
        PermitTree x = onlySevenStored();
        x.want(1, 0);
        Yard.deliver(x, Yard.ASK, 7);
        Yard.deliver(x, Yard.VOTE, 7);
        CHECK.due("a vote", x.quorumOf(1, 0), Yard.bits(7));
        x.giveUp(1, 0);
        Yard.deliverAll(x);
        x.want(1, 0);
        CHECK.due("no votes in the next run", x.quorumOf(1, 0), 0);
        Yard.drop(x, Yard.ASK, 7);
        Yard.deliverAll(x);
        CHECK.due("7 has not voted in it", x.quorumOf(1, 0), Yard.bits(0, 1, 3));
        x.timeout(1, 0, 7);
        Yard.deliverAll(x);
        CHECK.due("nor does its number count", x.permit(1, 0), 1);
    }

    /** Arbiter 7 alone has stored 1: of the first run's NUMBERs only its own came. */
    private static PermitTree onlySevenStored() {
        PermitTree x = writing(0, 0);
        Yard.deliver(x, Yard.NUMBER, 7);
        Yard.dropAll(x);
        x.giveUp(0, 0);
        Yard.deliverAll(x);
        CHECK.due("7 has stored 1", x.vote(7, 0, 2), 1);
        CHECK.due("3 has not", x.vote(3, 0, 2), 0);
        return x;
    }

    private static void timeoutAsksOnlyTheNew() {
        PermitTree x = new PermitTree();
        x.want(2, 1);
        Yard.dropAll(x);
        CHECK.due("timeout(2, 1, 0)", x.timeout(2, 1, 0), true);
        CHECK.due("the other half is asked", Yard.texts(x),
                "1 2 1 1 2 0, 1 2 1 1 5 0, 1 2 1 1 11 0");
        CHECK.due("again", x.timeout(2, 1, 0), false);
        CHECK.due("nothing more", x.letters(), 3);
        CHECK.due("one outside the route", x.timeout(2, 1, 12), true);
        CHECK.due("changes nothing", x.letters(), 3);
        CHECK.due("its place on the route", x.timeout(2, 1, 11), true);
        CHECK.due("5 has none below then, so 6", Yard.text(x, 3), "1 2 1 1 6 0");
        CHECK.due("and 13 below it", Yard.text(x, 4), "1 2 1 1 13 0");
        CHECK.due("no more than these", x.letters(), 5);
    }

    private static void timeoutKeepsVotes() {
        PermitTree x = new PermitTree();
        x.want(0, 0);
        Yard.drop(x, Yard.ASK, 3);
        Yard.deliverAll(x);
        CHECK.due("3 is not heard of", x.quorumOf(0, 0), Yard.bits(0, 1, 7));
        CHECK.due("timeout(0, 0, 3)", x.timeout(0, 0, 3), true);
        CHECK.due("8 alone is asked", Yard.texts(x), "1 0 0 1 8 0");
        CHECK.due("7 is of this route too", x.quorumOf(0, 0), Yard.bits(0, 1, 7));
        Yard.deliver(x, Yard.ASK, 8);
        CHECK.due("still asking", x.state(0, 0), 1);
        Yard.deliver(x, Yard.VOTE, 8);
        CHECK.due("writing with the votes of before", x.state(0, 0), 2);
        CHECK.due("this quorum", x.quorumOf(0, 0), Yard.bits(0, 1, 7, 8));
        CHECK.due("NUMBER goes to it", Yard.arbitersOf(x, Yard.NUMBER), Yard.bits(0, 1, 7, 8));
        Yard.deliverAll(x);
        CHECK.due("holding", x.state(0, 0), 3);
        x.release(0, 0);
        CHECK.due("BACK to all asked", Yard.arbitersOf(x, Yard.BACK), Yard.bits(0, 1, 3, 7, 8));
    }

    private static void timeoutRefuses() {
        PermitTree x = new PermitTree();
        CHECK.due("not asking", x.timeout(0, 0, 0), false);
        x.want(0, 0);
        CHECK.due("arbiter -1", x.timeout(0, 0, -1), false);
        CHECK.due("arbiter 15", x.timeout(0, 0, 15), false);
        CHECK.due("arbiter 32", x.timeout(0, 0, 32), false);
        CHECK.due("client 8", x.timeout(8, 0, 0), false);
        CHECK.due("client -1", x.timeout(-1, 0, 0), false);
        CHECK.due("crane 4", x.timeout(0, 4, 0), false);
        CHECK.due("crane -1", x.timeout(0, -1, 0), false);
        CHECK.due("another crane", x.timeout(0, 1, 0), false);
        CHECK.due("no letters of these", x.letters(), 4);
        CHECK.due("arbiter 14", x.timeout(0, 0, 14), true);
        Yard.deliverAll(x);
        CHECK.due("holding", x.state(0, 0), 3);
        CHECK.due("while holding", x.timeout(0, 0, 3), false);
        CHECK.due("while writing", writing(1, 1).timeout(1, 1, 3), false);
    }

    private static void noRouteNoPermit() {
        PermitTree x = new PermitTree();
        x.want(0, 0);
        for (int leaf = 7; leaf < 15; leaf++) {
            CHECK.due("each leaf is silent", x.timeout(0, 0, leaf), true);
        }
        CHECK.due("all others were asked", Yard.arbitersOf(x, Yard.ASK), (1 << 15) - 1);
        Yard.deliverAll(x);
        CHECK.due("all votes, no route", x.state(0, 0), 1);
        CHECK.due("so none of it", x.quorumOf(0, 0), 0);
        CHECK.due("one more is silent", x.timeout(0, 0, 0), true);
        CHECK.due("without a letter", x.letters(), 0);
        CHECK.due("it can give up", x.giveUp(0, 0), true);
        CHECK.due("all get BACK", Yard.arbitersOf(x, Yard.BACK), (1 << 15) - 1);
        CHECK.due("once each", x.letters(), 15);
    }

    private static void giveUpSendsBackToAllAsked() {
        PermitTree x = new PermitTree();
        x.want(6, 3);
        Yard.dropAll(x);
        x.timeout(6, 3, 3);
        CHECK.due("8 is asked too", Yard.texts(x), "1 6 3 1 8 0");
        Yard.dropAll(x);
        CHECK.due("giveUp(6, 3)", x.giveUp(6, 3), true);
        CHECK.due("the letters", Yard.texts(x),
                "5 6 3 1 0 0, 5 6 3 1 1 0, 5 6 3 1 3 0, 5 6 3 1 7 0, 5 6 3 1 8 0");
        CHECK.due("away", x.state(6, 3), 0);
        CHECK.due("no quorum", x.quorumOf(6, 3), 0);
        PermitTree y = writing(2, 2);
        CHECK.due("while writing", y.giveUp(2, 2), true);
        CHECK.due("away too", y.state(2, 2), 0);
        CHECK.due("no quorum too", y.quorumOf(2, 2), 0);
        CHECK.due("BACK behind NUMBER", y.letter(4, 0), Yard.BACK);
    }

    private static void giveUpRefuses() {
        PermitTree x = new PermitTree();
        CHECK.due("not at it", x.giveUp(0, 0), false);
        CHECK.due("client -1", x.giveUp(-1, 0), false);
        CHECK.due("client 8", x.giveUp(8, 0), false);
        CHECK.due("crane -1", x.giveUp(0, -1), false);
        CHECK.due("crane 4", x.giveUp(0, 4), false);
        Yard.hold(x, 0, 0);
        CHECK.due("while holding", x.giveUp(0, 0), false);
        CHECK.due("no letters", x.letters(), 0);
        x.breakPermit(0, 1);
        CHECK.due("while holding what is broken", x.giveUp(0, 0), false);
        CHECK.due("it still is", x.state(0, 0), 4);
    }

    private static void releaseEndsTheRun() {
        PermitTree x = new PermitTree();
        Yard.hold(x, 4, 1);
        CHECK.due("release(4, 1)", x.release(4, 1), true);
        CHECK.due("the letters", Yard.texts(x),
                "5 4 1 1 0 0, 5 4 1 1 1 0, 5 4 1 1 3 0, 5 4 1 1 7 0");
        CHECK.due("away", x.state(4, 1), 0);
        CHECK.due("no permit", x.permit(4, 1), 0);
        CHECK.due("no quorum", x.quorumOf(4, 1), 0);
        Yard.deliverAll(x);
        CHECK.due("the vote is free", x.vote(0, 1, 0), NONE);
        CHECK.due("its number stays", x.vote(0, 1, 2), 1);
        CHECK.due("again", x.release(4, 1), false);
        Yard.hold(x, 4, 1);
        x.breakPermit(1, 2);
        CHECK.due("of what is broken", x.release(4, 1), true);
        CHECK.due("away again", x.state(4, 1), 0);
    }

    private static void releaseRefuses() {
        PermitTree x = new PermitTree();
        CHECK.due("not at it", x.release(0, 0), false);
        CHECK.due("client -1", x.release(-1, 0), false);
        CHECK.due("client 8", x.release(8, 0), false);
        CHECK.due("crane -1", x.release(0, -1), false);
        CHECK.due("crane 4", x.release(0, 4), false);
        x.want(0, 0);
        CHECK.due("while asking", x.release(0, 0), false);
        CHECK.due("still asking", x.state(0, 0), 1);
        PermitTree y = writing(0, 0);
        CHECK.due("while writing", y.release(0, 0), false);
        CHECK.due("still writing", y.state(0, 0), 2);
    }

    private static void lateVoteIsSentBack() {
        PermitTree x = new PermitTree();
        x.want(1, 0);
        Yard.deliver(x, Yard.ASK, 3);
        x.copy(Yard.find(x, Yard.VOTE, 3));
        x.giveUp(1, 0);
        Yard.drop(x, Yard.BACK, 3);
        int before = x.letters();
        Yard.deliver(x, Yard.VOTE, 3);
        CHECK.due("an answer comes", x.letters(), before);
        CHECK.due("BACK for that run", Yard.text(x, before - 1), "5 1 0 1 3 0");
        CHECK.due("the next run", x.want(1, 0), 2);
        before = x.letters();
        Yard.deliver(x, Yard.VOTE, 3);
        CHECK.due("BACK for the earlier run", Yard.text(x, before - 1), "5 1 0 1 3 0");
        CHECK.due("and no vote", x.quorumOf(1, 0), 0);
        Yard.deliverAll(x);
        CHECK.due("the new run comes through", x.state(1, 0), 3);
        CHECK.due("with its own vote", x.vote(3, 0, 1), 2);
    }

    private static void laterVoteOfTheRunIsNothing() {
        PermitTree x = new PermitTree();
        x.want(0, 0);
        Yard.deliverTimes(x, 0, 4);
        x.copy(0);
        x.copy(0);
        Yard.deliverTimes(x, 0, 4);
        CHECK.due("writing", x.state(0, 0), 2);
        CHECK.due("the copies are first", x.letter(0, 0), Yard.VOTE);
        CHECK.due("six letters", x.letters(), 6);
        x.deliver(0);
        CHECK.due("no answer while writing", x.letters(), 5);
        int last = x.letters();
        for (int i = 1; i < last; i++) {
            x.deliver(1);
        }
        for (int i = 1; i < last; i++) {
            x.deliver(1);
        }
        CHECK.due("holding", x.state(0, 0), 3);
        CHECK.due("one copy left", Yard.texts(x), "2 0 0 1 0 0");
        x.deliver(0);
        CHECK.due("no answer while holding", x.letters(), 0);
        CHECK.due("it still holds", x.state(0, 0), 3);
    }

    private static void lateStoredIsNothing() {
        PermitTree x = writing(0, 0);
        Yard.deliverTimes(x, 0, 4);
        x.giveUp(0, 0);
        Yard.deliverTimes(x, 0, 4);
        CHECK.due("after the end", x.state(0, 0), 0);
        CHECK.due("BACK alone", x.letters(), 4);

        storedOfAnEarlierRunIsNothing();
    }

    private static void storedOfAnEarlierRunIsNothing() {
        PermitTree x = writing(0, 0);
        Yard.deliver(x, Yard.NUMBER, 0);
        x.giveUp(0, 0);
        // The old STORED is the fourth letter; all else of the old run comes or is lost first.
        for (int i = 0; i < 3; i++) {
            x.drop(0);
        }
        Yard.deliverTimes(x, 1, 4);
        CHECK.due("the old STORED alone is left", Yard.texts(x), "4 0 0 1 0 0");
        CHECK.due("the second run", x.want(0, 0), 2);
        Yard.deliverTimes(x, 1, 8);
        CHECK.due("it writes", x.state(0, 0), 2);
        for (int arbiter : new int[] {1, 3, 7}) {
            Yard.deliver(x, Yard.NUMBER, arbiter);
            Yard.deliver(x, Yard.STORED, arbiter);
        }
        CHECK.due("the old STORED comes", x.deliver(0), true);
        CHECK.due("and does not count", x.state(0, 0), 2);
        Yard.deliverAll(x);
        CHECK.due("its own does", x.state(0, 0), 3);
        CHECK.due("its number", x.permit(0, 0), 2);
    }

    /** 7 is asked, votes and is silent: it gets no NUMBER, and is not waited for. */
    private static void silentOneIsNotOfTheQuorum() {
        PermitTree x = new PermitTree();
        x.want(0, 0);
        x.timeout(0, 0, 7);
        while (x.state(0, 0) == 1) {
            x.deliver(0);
        }
        CHECK.due("NUMBER goes to the quorum alone", Yard.arbitersOf(x, Yard.NUMBER),
                Yard.bits(0, 1, 3, 8));
        CHECK.due("four of them", x.letters(), 4);
        Yard.deliverAll(x);
        CHECK.due("holding without 7", x.state(0, 0), 3);
        CHECK.due("which still gives it its vote", x.vote(7, 0, 0), 0);
    }

    private static void stateRefuses() {
        PermitTree x = new PermitTree();
        CHECK.due("client -1", x.state(-1, 0), NONE);
        CHECK.due("client 8", x.state(8, 0), NONE);
        CHECK.due("crane -1", x.state(0, -1), NONE);
        CHECK.due("crane 4", x.state(0, 4), NONE);
        CHECK.due("the last of both", x.state(7, 3), 0);
        Yard.hold(x, 7, 3);
        CHECK.due("holding", x.state(7, 3), 3);
        x.breakPermit(3, 1);
        CHECK.due("holding what is broken", x.state(7, 3), 4);
        Yard.deliverAll(x);
        CHECK.due("and it stays so", x.state(7, 3), 4);
    }

    private static void permitAndQuorumRefuse() {
        PermitTree x = new PermitTree();
        int[][] wrong = {{-1, 0}, {8, 0}, {0, -1}, {0, 4}, {Integer.MAX_VALUE, 0},
            {0, Integer.MIN_VALUE}};
        for (int[] pair : wrong) {
            CHECK.due("permit of none such", x.permit(pair[0], pair[1]), 0);
            CHECK.due("quorumOf none such", x.quorumOf(pair[0], pair[1]), 0);
        }
        Yard.hold(x, 3, 2);
        CHECK.due("permit", x.permit(3, 2), 1);
        x.breakPermit(2, 1);
        CHECK.due("permit, broken", x.permit(3, 2), 1);
        CHECK.due("quorum, broken", x.quorumOf(3, 2), Yard.bits(0, 1, 3, 7));
        CHECK.due("another crane's permit", x.permit(3, 1), 0);
        CHECK.due("another crane's quorum", x.quorumOf(3, 1), 0);
    }

    private static void cranesDoNotMix() {
        PermitTree x = new PermitTree();
        CHECK.due("run 1 at crane 0", x.want(0, 0), 1);
        CHECK.due("run 2 at crane 1", x.want(0, 1), 2);
        Yard.deliverAll(x);
        CHECK.due("the earlier run is not late", x.state(0, 0), 3);
        CHECK.due("nor the second", x.state(0, 1), 3);
        CHECK.due("its number", x.permit(0, 1), 1);
        x.release(0, 0);
        CHECK.due("the other is held", x.state(0, 1), 3);
    }

    private static void newRunForgetsTheOld() {
        PermitTree x = new PermitTree();
        x.want(0, 0);
        x.timeout(0, 0, 7);
        x.giveUp(0, 0);
        Yard.deliverAll(x);
        x.want(0, 0);
        CHECK.due("nobody is silent", Yard.arbitersOf(x, Yard.ASK), Yard.bits(0, 1, 3, 7));
        CHECK.due("no votes", x.quorumOf(0, 0), 0);
        CHECK.due("7 may be silent again", x.timeout(0, 0, 7), true);
        CHECK.due("and 8 is asked again", x.letters(), 5);
        x.giveUp(0, 0);
        CHECK.due("BACK to those of this run", Yard.arbitersOf(x, Yard.BACK),
                Yard.bits(0, 1, 3, 7, 8));
    }

    /** An object on which a client is writing, its four NUMBERs being the only letters. */
    private static PermitTree writing(int client, int crane) {
        PermitTree x = new PermitTree();
        x.want(client, crane);
        Yard.deliverTimes(x, 0, 8);
        return x;
    }

    private ClientTest() {
    }
}
