/**
 * The boundary cases that the document's "Terms" name, a test for each sentence. Those of the
 * routes stand in RouteTest.
 */
public final class EdgeTermsTest {
    private static final Check CHECK = new Check();
    private static final Script SCRIPT = new Script(CHECK);

    private static final String ASKING = Scenes.ASKING;
    private static final String WRITING = Scenes.WRITING;
    private static final String HOLDING = Scenes.HOLDING;
    private static final String BROKEN = Scenes.BROKEN;
    private static final String ALL_STOP = "stop 0; stop 1; stop 2; stop 3; stop 4; stop 5; stop 6;"
            + "stop 7; stop 8; stop 9; stop 10; stop 11; stop 12; stop 13; stop 14;";

    public static void main(String[] args) {
        clientsZeroToSeven();
        cranesZeroToThree();
        arbitersZeroToFourteen();
        sixIsTheLastWithTwoBelow();
        upAtFirst();
        whatComesToADownOneIsLost();
        whatComesFromADownOneIsNot();
        aDownOneForgetsNothing();
        runsAreCounted();
        aRefusedWantTakesNoRun();
        aNewRunCountsNobodyAsSilent();
        earlierRunIsLate();
        endedRunIsLate();
        releasedRunIsLate();
        runAtAnotherCraneIsNotLate();
        votesOfAll();
        votesWithoutARoute();
        oneMoreThanTheGreatest();
        votesThatComeLater();
        storedFromAll();
        lateStored();
        storedInAnEarlierRun();
        silentOnlyOnce();
        askOnlyTheNew();
        backToAllAsked();
        oneHolder();
        askOfTheHolder();
        askOfOneThatWaits();
        atMostSixteenWait();
        seventeenthAsksAgain();
        fullRowMovesUp();
        numberGreaterEqualLower();
        numberOfAnother();
        backOfWhoWaits();
        backOfTheHolder();
        backOfNeither();
        brokenIsAsBack();
        ordersBelowAtAndAbove();
        ordersAtAndAboveTheBroken();
        brokenBelowAtAndAbove();
        breakingTellsAllArbitersAndTheCrane();
        arbitersByTheirNumbers();
        fiveHundredAndTwelveCalls();
        CHECK.end();
    }

    // There are CLIENTS 0 .. 7, CRANES 0 .. 3 and ARBITERS 0 .. 14.

    private static void clientsZeroToSeven() {
        SCRIPT.run("each client is another one", "want 0 0 = 1; want 1 0 = 1; want 2 0 = 1;",
                "want 3 0 = 1; want 4 0 = 1; want 5 0 = 1; want 6 0 = 1; want 7 0 = 1;",
                "letters = 32; shows 0 = 1 0 0 1 0 0; shows 31 = 1 7 0 1 7 0");
        SCRIPT.refused("no client -1", "", "want -1 0 = -1; state -1 0 = -1");
        SCRIPT.refused("no client 8", "", "want 8 0 = -1; state 8 0 = -1");
    }

    private static void cranesZeroToThree() {
        SCRIPT.run("each crane is another one", "want 0 0 = 1; want 0 1 = 2; want 0 2 = 3;",
                "want 0 3 = 4; letters = 16; shows 0 = 1 0 0 1 0 0; shows 15 = 1 0 3 4 7 0;",
                "8 x deliver 8; 8 x deliver 8; state 0 3 = 2; state 0 2 = 2; state 0 1 = 1");
        SCRIPT.refused("no crane -1", "", "want 0 -1 = -1; orders -1 = -1; highest -1 = -1");
        SCRIPT.refused("no crane 4", "", "want 0 4 = -1; orders 4 = -1; highest 4 = -1");
    }

    private static void arbitersZeroToFourteen() {
        SCRIPT.run("the first and the last", "vote 0 0 2 = 0; vote 14 0 2 = 0; stop 0 = 1;",
                "stop 14 = 1; start 0 = 1; start 14 = 1");
        SCRIPT.refused("no arbiter -1", ASKING,
                "vote -1 0 2 = -1; stop -1 = 0; start -1 = 0; timeout 0 0 -1 = 0");
        SCRIPT.refused("no arbiter 15", ASKING,
                "vote 15 0 2 = -1; stop 15 = 0; start 15 = 0; timeout 0 0 15 = 0");
    }

    // Those below arbiter k are 2 * k + 1 and 2 * k + 2, if there are such; without: LEAVES.

    private static void sixIsTheLastWithTwoBelow() {
        SCRIPT.run("6 has 13 and 14 below", "want 0 0; 4 x drop 0; timeout 0 0 1; 2 x drop 0;",
                "timeout 0 0 3; drop 0; timeout 0 0 7; letters = 3; shows 0 = 1 0 0 1 2 0;",
                "shows 1 = 1 0 0 1 5 0; shows 2 = 1 0 0 1 11 0; 3 x drop 0;",
                "timeout 0 0 5; letters = 1; shows 0 = 1 0 0 1 12 0; drop 0;",
                "timeout 0 0 12; letters = 2; shows 0 = 1 0 0 1 6 0; shows 1 = 1 0 0 1 13 0;",
                "2 x drop 0; timeout 0 0 6; letters = 1; shows 0 = 1 0 0 1 14 0");
        SCRIPT.run("7 has none below", "want 0 0; 4 x drop 0; timeout 0 0 7; letters = 1;",
                "shows 0 = 1 0 0 1 8 0");
    }

    // Arbiters are UP (at first) or DOWN; what comes to one that is down is lost.

    private static void upAtFirst() {
        SCRIPT.run("all are up", "want 0 0; 4 x deliver 0; letters = 4; shows 0 = 2 0 0 1 0 0");
        for (int arbiter = 0; arbiter < 15; arbiter++) {
            SCRIPT.run("up", "start " + arbiter + " = 0; stop " + arbiter + " = 1");
        }
    }

    private static void whatComesToADownOneIsLost() {
        SCRIPT.run("ASK", "stop 0; want 0 0 = 1; letters = 4; deliver 0 = 1; letters = 3;",
                "vote 0 0 0 = -1; start 0; letters = 3; vote 0 0 0 = -1");
        SCRIPT.run("ASK that would wait", HOLDING, "stop 0; want 1 0; deliver 0 = 1;",
                "vote 0 0 3 = 0; letters = 3");
        SCRIPT.run("NUMBER", WRITING, "stop 0; deliver 0 = 1; letters = 3; vote 0 0 2 = 0");
        SCRIPT.run("BACK of the holder", HOLDING, "release 0 0; stop 7; deliver 3 = 1;",
                "letters = 3; vote 7 0 0 = 0; vote 7 0 1 = 1");
        SCRIPT.run("BACK of one that waits", HOLDING, "want 1 0; 4 x deliver 0; giveUp 1 0;",
                "stop 0; deliver 0 = 1; letters = 3; vote 0 0 3 = 1; vote 0 0 4 = 1");
        SCRIPT.run("BROKEN", BROKEN, "stop 0; deliver 0 = 1; letters = 15; vote 0 0 0 = 0;",
                "deliver 0; vote 1 0 0 = -1");
    }

    private static void whatComesFromADownOneIsNot() {
        SCRIPT.run("VOTE", "want 0 0; deliver 0; stop 0; deliver 3 = 1; quorumOf 0 0 = 1");
        SCRIPT.run("a late VOTE", "want 0 0; deliver 0; giveUp 0 0; stop 0; deliver 3 = 1;",
                "letters = 8; shows 7 = 5 0 0 1 0 0; deliver 7 = 1; vote 0 0 0 = 0");
        SCRIPT.run("STORED", WRITING, "4 x deliver 0;", ALL_STOP, "3 x deliver 0; state 0 0 = 2;",
                "deliver 0 = 1; state 0 0 = 3");
        SCRIPT.run("ORDER", HOLDING, ALL_STOP, "order 0 0 6 = 1; deliver 0 = 1; orders 0 = 1");
        SCRIPT.run("BROKEN to the crane", BROKEN, ALL_STOP, "deliver 15 = 1; highest 0 = 1");
    }

    private static void aDownOneForgetsNothing() {
        SCRIPT.run("while it is down, and after", HOLDING, "want 1 0; want 2 0; 8 x deliver 0;",
                "stop 0; vote 0 0 0 = 0; vote 0 0 1 = 1; vote 0 0 2 = 1; vote 0 0 3 = 2;",
                "vote 0 0 4 = 1; start 0; vote 0 0 0 = 0; vote 0 0 1 = 1; vote 0 0 2 = 1;",
                "vote 0 0 3 = 2; vote 0 0 4 = 1; release 0 0; deliver 0; letters = 4;",
                "shows 3 = 2 1 0 1 0 1; vote 0 0 4 = 2");
    }

    // Its RUN is the next number (1, 2, .. for each client, whatever the cranes).

    private static void runsAreCounted() {
        SCRIPT.run("whatever the cranes", "want 0 0 = 1; want 0 1 = 2; want 0 3 = 3; giveUp 0 1;",
                "want 0 1 = 4; shows 16 = 1 0 1 4 0 0");
        SCRIPT.run("for each client", "want 0 0 = 1; want 1 0 = 1; giveUp 0 0; want 0 0 = 2;",
                "want 7 3 = 1; want 7 2 = 2");
    }

    private static void aRefusedWantTakesNoRun() {
        SCRIPT.run("refused", "want 0 0 = 1; want 0 0 = -1; want 0 4 = -1; want 0 -1 = -1;",
                "want 8 0 = -1; want 0 1 = 2");
    }

    // It is asking, counts no arbiter as silent.

    private static void aNewRunCountsNobodyAsSilent() {
        SCRIPT.run("the next run", "want 0 0; timeout 0 0 7 = 1; timeout 0 0 7 = 0; giveUp 0 0;",
                "14 x drop 0; letters = 0; want 0 0; letters = 4; shows 3 = 1 0 0 2 7 0;",
                "timeout 0 0 7 = 1; letters = 5; shows 4 = 1 0 0 2 8 0");
        SCRIPT.run("after a permit", "want 0 0; timeout 0 0 14; 16 x deliver 0; state 0 0 = 3;",
                "release 0 0; 4 x drop 0; want 0 0; state 0 0 = 1; timeout 0 0 14 = 1");
        SCRIPT.run("another crane or client", "want 0 0; want 0 1; want 1 0; timeout 0 0 7 = 1;",
                "timeout 0 1 7 = 1; timeout 1 0 7 = 1; letters = 15");
    }

    // What comes to it for an earlier run of its, or one that it ended, is a LATE word.
    // A late VOTE: it sends BACK for that run to the arbiter.

    private static void earlierRunIsLate() {
        SCRIPT.run("VOTE of run 1 in run 2", "want 0 0; 4 x deliver 0; giveUp 0 0; want 0 0 = 2;",
                "letters = 12; shows 0 = 2 0 0 1 0 0; deliver 0 = 1; letters = 12;",
                "shows 11 = 5 0 0 1 0 0; quorumOf 0 0 = 0; state 0 0 = 1; 3 x deliver 0;",
                "shows 11 = 5 0 0 1 7 0; quorumOf 0 0 = 0; state 0 0 = 1");
        SCRIPT.run("BACK of run 1 frees the vote for run 2", "want 0 0; deliver 0; giveUp 0 0;",
                "3 x drop 0; 4 x drop 1; shows 0 = 2 0 0 1 0 0; letters = 1; want 0 0 = 2;",
                "deliver 1; vote 0 0 3 = 1; deliver 0; shows 3 = 5 0 0 1 0 0; deliver 3 = 1;",
                "vote 0 0 1 = 2; shows 3 = 2 0 0 2 0 0; deliver 3; quorumOf 0 0 = 1");
        SCRIPT.run("VOTE of run 1 while it holds in run 2", "want 0 0; deliver 0; copy 3;",
                "giveUp 0 0; 3 x drop 0; deliver 2; 3 x drop 2; drop 0; letters = 1;",
                "shows 0 = 2 0 0 1 0 0; want 0 0 = 2; 16 x deliver 1; state 0 0 = 3;",
                "deliver 0 = 1; letters = 1; shows 0 = 5 0 0 1 0 0; deliver 0 = 1;",
                "vote 0 0 0 = 0; vote 0 0 1 = 2; state 0 0 = 3");
    }

    private static void endedRunIsLate() {
        SCRIPT.run("VOTE after giveUp", "want 0 0; 4 x deliver 0; giveUp 0 0; deliver 0 = 1;",
                "letters = 8; shows 7 = 5 0 0 1 0 0; state 0 0 = 0; quorumOf 0 0 = 0");
        SCRIPT.run("VOTE, while it is at another crane", "want 0 3; 4 x deliver 0; giveUp 0 3;",
                "want 0 2 = 2; deliver 0 = 1; letters = 12; shows 11 = 5 0 3 1 0 0;",
                "state 0 2 = 1; quorumOf 0 2 = 0");
    }

    private static void releasedRunIsLate() {
        SCRIPT.run("VOTE after release", "want 0 0; 4 x deliver 0; copy 0; 4 x deliver 0;",
                "8 x deliver 1; state 0 0 = 3; letters = 1; release 0 0 = 1; letters = 5;",
                "deliver 0 = 1; letters = 5; shows 4 = 5 0 0 1 0 0");
    }

    private static void runAtAnotherCraneIsNotLate() {
        SCRIPT.run("run 1 at crane 0, run 2 at crane 1", "want 0 0 = 1; want 0 1 = 2;",
                "8 x deliver 0; 8 x deliver 0; letters = 8; state 0 0 = 2; state 0 1 = 2;",
                "16 x deliver 0; state 0 0 = 3; state 0 1 = 3");
    }

    // When it has the votes of all of its route (there being one) it is writing.

    private static void votesOfAll() {
        SCRIPT.run("three of four, and all", "want 0 0; 7 x deliver 0; state 0 0 = 1;",
                "quorumOf 0 0 = 11; letters = 1; deliver 0; state 0 0 = 2; quorumOf 0 0 = 139;",
                "letters = 4; shows 0 = 3 0 0 1 0 1; shows 3 = 3 0 0 1 7 1");
        SCRIPT.run("one twice, then the others", "want 0 0; 4 x deliver 0; copy 0; deliver 0;",
                "deliver 3; quorumOf 0 0 = 1; 2 x deliver 0; state 0 0 = 1; deliver 0;",
                "state 0 0 = 2; letters = 4");
        SCRIPT.run("one vote four times", "want 0 0; 4 x deliver 0; 3 x copy 0; deliver 0;",
                "3 x deliver 3; quorumOf 0 0 = 1; state 0 0 = 1; letters = 3");
        SCRIPT.run("all but one, that is silent then", "want 0 0; 3 x deliver 0; drop 0;",
                "3 x deliver 0; state 0 0 = 1; timeout 0 0 7 = 1; state 0 0 = 1; letters = 1;",
                "2 x deliver 0; state 0 0 = 2; quorumOf 0 0 = 267");
    }

    private static void votesWithoutARoute() {
        SCRIPT.run("all votes, no route", Scenes.NO_ROUTE, "letters = 11; 22 x deliver 0 = 1;",
                "letters = 0; state 0 0 = 1; quorumOf 0 0 = 0; giveUp 0 0 = 1");
        SCRIPT.run("no route at last", "want 0 0; timeout 0 0 7; timeout 0 0 8; timeout 0 0 9;",
                "timeout 0 0 10; timeout 0 0 11; timeout 0 0 12; timeout 0 0 13; letters = 15;",
                "timeout 0 0 14 = 1; letters = 15; 30 x deliver 0 = 1; state 0 0 = 1;",
                "timeout 0 0 0 = 1; timeout 0 0 14 = 0; state 0 0 = 1; letters = 0");
    }

    // Its NUMBER one more than the greatest n of the votes that it has.

    private static void oneMoreThanTheGreatest() {
        SCRIPT.run("all 0", WRITING, "shows 0 = 3 0 0 1 0 1");
        String lastStored = WRITING + "deliver 3; giveUp 0 0; 4 x drop 0; 4 x deliver 0;";
        SCRIPT.run("1 of the last alone", lastStored, "vote 7 0 2 = 1; vote 0 0 2 = 0; want 1 0;",
                "8 x deliver 0; letters = 4; shows 0 = 3 1 0 1 0 2; shows 3 = 3 1 0 1 7 2");
        String firstStored = WRITING + "deliver 0; giveUp 0 0; 4 x drop 0; 4 x deliver 0;";
        SCRIPT.run("1 of the first alone", firstStored, "vote 0 0 2 = 1; vote 7 0 2 = 0; want 1 0;",
                "8 x deliver 0; letters = 4; shows 0 = 3 1 0 1 0 2; shows 3 = 3 1 0 1 7 2");
        SCRIPT.run("of a vote that came, of one that is silent", lastStored, "want 1 0;",
                "deliver 3; deliver 3; timeout 1 0 7; 8 x deliver 0; letters = 4;",
                "shows 0 = 3 1 0 1 0 2; shows 3 = 3 1 0 1 8 2");
        // Arbiter 7 votes with 1 in run 1 of client 1; in run 2 it is not heard of.
        SCRIPT.run("not of an earlier run", lastStored, "want 1 0; deliver 3; deliver 3;",
                "giveUp 1 0; 7 x deliver 0; 3 x drop 0; letters = 0; want 1 0 = 2;",
                "drop 3; timeout 1 0 7; 8 x deliver 0; state 1 0 = 2; shows 0 = 3 1 0 2 0 1");
        SCRIPT.run("not of one that did not come", lastStored, "want 1 0; drop 3;",
                "timeout 1 0 7; 8 x deliver 0; letters = 4; shows 0 = 3 1 0 1 0 1");
    }

    // Of votes that come later for its run nothing more comes of them.

    private static void votesThatComeLater() {
        String doubled = "want 0 0; 4 x deliver 0; 2 x copy 0; 4 x deliver 0;";
        SCRIPT.run("while writing", doubled, "state 0 0 = 2; letters = 6; deliver 0 = 1;",
                "letters = 5; state 0 0 = 2; quorumOf 0 0 = 139");
        SCRIPT.run("while holding", doubled, "8 x deliver 2; state 0 0 = 3; letters = 2;",
                "deliver 0 = 1; letters = 1; state 0 0 = 3; permit 0 0 = 1");
        SCRIPT.run("while holding what is broken", doubled, "8 x deliver 2; breakPermit 0 1;",
                "letters = 18; deliver 0 = 1; letters = 17; state 0 0 = 4");
    }

    // STORED from an arbiter of the quorum, while it is writing: from all, it is holding.

    private static void storedFromAll() {
        SCRIPT.run("three of four, and all", WRITING, "7 x deliver 0; state 0 0 = 2;",
                "permit 0 0 = 0; letters = 1; deliver 0; state 0 0 = 3; permit 0 0 = 1");
        SCRIPT.run("one four times", WRITING, "4 x deliver 0; 3 x copy 0; deliver 0;",
                "3 x deliver 3; state 0 0 = 2; letters = 3");
        SCRIPT.run("one twice, then the others", WRITING, "4 x deliver 0; copy 0; deliver 0;",
                "deliver 3; 2 x deliver 0; state 0 0 = 2; deliver 0; state 0 0 = 3; letters = 0");
        SCRIPT.run("one more while holding", WRITING, "4 x deliver 0; copy 0; 4 x deliver 0;",
                "state 0 0 = 3; deliver 0 = 1; state 0 0 = 3; letters = 0; permit 0 0 = 1");
        SCRIPT.run("one more while broken", WRITING, "4 x deliver 0; copy 0; 4 x deliver 0;",
                "breakPermit 0 1; deliver 0 = 1; state 0 0 = 4; letters = 16");
    }

    // A late or another one: nothing.

    private static void lateStored() {
        SCRIPT.run("of a run that it ended", WRITING, "4 x deliver 0; giveUp 0 0; letters = 8;",
                "4 x deliver 0 = 1; letters = 4; state 0 0 = 0; permit 0 0 = 0");
        SCRIPT.run("while it is asking in the next", WRITING, "4 x deliver 0; giveUp 0 0;",
                "want 0 0 = 2; 4 x deliver 0 = 1; letters = 8; state 0 0 = 1; quorumOf 0 0 = 0");
        // STORED of the root for run 1 stays at place 0 while run 2 gets to writing.
        SCRIPT.run("while it is writing in the next", WRITING, "deliver 0; 3 x drop 0;",
                "giveUp 0 0; 4 x deliver 1; want 0 0 = 2; 8 x deliver 1; state 0 0 = 2;",
                "drop 1; 3 x deliver 1; 3 x deliver 1; shows 0 = 4 0 0 1 0 0; letters = 1;",
                "deliver 0 = 1; state 0 0 = 2; letters = 0");
    }

    private static void storedInAnEarlierRun() {
        SCRIPT.run("all but one in each of two runs", WRITING, "deliver 0; deliver 3; drop 0;",
                "giveUp 0 0; 2 x drop 0; 4 x deliver 0; want 0 0 = 2; 8 x deliver 0;",
                "state 0 0 = 2; drop 0; 6 x deliver 0; state 0 0 = 2; letters = 0");
    }

    // An arbiter that it is told to count as silent: if it is not counted so yet, it is.

    private static void silentOnlyOnce() {
        SCRIPT.refused("twice", "want 0 0; timeout 0 0 7;", "timeout 0 0 7 = 0");
        SCRIPT.refused("twice, outside the route", "want 0 0; timeout 0 0 14;",
                "timeout 0 0 14 = 0");
        SCRIPT.refused("twice, without a route", Scenes.NO_ROUTE,
                "timeout 0 0 0 = 0; timeout 0 0 10 = 0");
    }

    // ASK goes to each of its arbiters that it did not send it to in this run.

    private static void askOnlyTheNew() {
        SCRIPT.run("one outside the route", "want 0 0; timeout 0 0 14 = 1; letters = 4");
        SCRIPT.run("one new", "want 0 0; timeout 0 0 3 = 1; letters = 5; shows 4 = 1 0 0 1 8 0");
        SCRIPT.run("two new", "want 0 0; timeout 0 0 1 = 1; letters = 6; shows 4 = 1 0 0 1 4 0;",
                "shows 5 = 1 0 0 1 9 0");
        SCRIPT.run("not again, if the letter was lost", "want 0 0; 4 x drop 0; timeout 0 0 7;",
                "letters = 1; shows 0 = 1 0 0 1 8 0; drop 0; timeout 0 0 8; letters = 2;",
                "shows 0 = 1 0 0 1 4 0; shows 1 = 1 0 0 1 9 0");
        SCRIPT.run("none, without a route", Scenes.NO_ROUTE, "letters = 11; timeout 0 0 14 = 1;",
                "letters = 11");
    }

    // To END a run: BACK goes to all arbiters that were asked in it.

    private static void backToAllAsked() {
        SCRIPT.run("the route alone", ASKING, "giveUp 0 0; letters = 8; shows 4 = 5 0 0 1 0 0;",
                "shows 5 = 5 0 0 1 1 0; shows 6 = 5 0 0 1 3 0; shows 7 = 5 0 0 1 7 0");
        SCRIPT.run("silent ones and those of no route", Scenes.NO_ROUTE, "11 x drop 0;",
                "giveUp 0 0; letters = 11; shows 0 = 5 0 0 1 0 0; shows 2 = 5 0 0 1 2 0;",
                "shows 5 = 5 0 0 1 5 0; shows 6 = 5 0 0 1 7 0; shows 9 = 5 0 0 1 10 0;",
                "shows 10 = 5 0 0 1 11 0; state 0 0 = 0");
        SCRIPT.run("not those of an earlier run", Scenes.NO_ROUTE, "giveUp 0 0; 22 x drop 0;",
                "want 0 0; giveUp 0 0; letters = 8; shows 4 = 5 0 0 2 0 0; shows 7 = 5 0 0 2 7 0");
    }

    // An arbiter has, for each crane, at most one HOLDER of its vote.

    private static void oneHolder() {
        SCRIPT.run("the first that asks", "want 0 0; want 1 0; deliver 4; deliver 0;",
                "vote 0 0 0 = 1; vote 0 0 3 = 1; vote 0 0 4 = 0; letters = 7");
        SCRIPT.run("for each crane", "want 0 0; want 1 3; deliver 4; deliver 0; letters = 8;",
                "vote 0 0 0 = 0; vote 0 3 0 = 1; vote 0 0 3 = 0; vote 0 3 3 = 0");
    }

    // ASK: if it is the holder, or waits, nothing.

    private static void askOfTheHolder() {
        SCRIPT.run("again", "want 0 0; copy 0; deliver 0; letters = 5; deliver 3 = 1; letters = 4;",
                "vote 0 0 0 = 0; vote 0 0 3 = 0");
        SCRIPT.run("after its end, before BACK comes", "want 0 0; copy 0; deliver 0; giveUp 0 0;",
                "deliver 3 = 1; letters = 8; vote 0 0 3 = 0");
        SCRIPT.run("another run is another one", "want 0 0; deliver 0; giveUp 0 0; 8 x drop 0;",
                "want 0 0; deliver 0; vote 0 0 1 = 1; vote 0 0 3 = 1; vote 0 0 4 = 0");
    }

    private static void askOfOneThatWaits() {
        SCRIPT.run("again", HOLDING, "want 1 0; copy 0; deliver 0; vote 0 0 3 = 1; deliver 3 = 1;",
                "vote 0 0 3 = 1; letters = 3");
        SCRIPT.run("the last that waits, again", HOLDING, "want 1 0; want 2 0; copy 4; deliver 0;",
                "deliver 3; vote 0 0 3 = 2; deliver 6 = 1; vote 0 0 3 = 2; letters = 6");
        SCRIPT.run("with a full row", HOLDING, Scenes.waits(15), "want 2 0; copy 0; deliver 0;",
                "vote 0 0 3 = 16; deliver 3 = 1; vote 0 0 3 = 16; letters = 3");
    }

    // A row of those that WAIT (at most 16); if 16 wait: nothing.

    private static void atMostSixteenWait() {
        SCRIPT.run("none", "vote 0 0 3 = 0; vote 0 0 4 = -1");
        SCRIPT.run("one", HOLDING, Scenes.waits(1), "vote 0 0 3 = 1; vote 0 0 4 = 1");
        SCRIPT.run("the sixteenth is taken", HOLDING, Scenes.waits(15), "vote 0 0 3 = 15;",
                "want 2 0 = 3; deliver 0 = 1; vote 0 0 3 = 16; vote 0 0 4 = 1; letters = 3");
        SCRIPT.run("the seventeenth is not", HOLDING, Scenes.waits(16), "vote 0 0 3 = 16;",
                "want 3 0 = 3; deliver 0 = 1; vote 0 0 3 = 16; vote 0 0 4 = 1; letters = 3;",
                "vote 0 0 0 = 0; state 3 0 = 1");
        SCRIPT.run("another crane's row is another", HOLDING, Scenes.waits(16), "want 3 1;",
                "deliver 0; vote 0 1 0 = 3; vote 0 1 3 = 0; vote 0 0 3 = 16");
    }

    private static void seventeenthAsksAgain() {
        // Client 2's run 3 is the sixteenth, client 3's the seventeenth, whose ASK is doubled.
        String full = HOLDING + Scenes.waits(15) + "want 2 0; deliver 0; 3 x drop 0; want 3 0;"
                + "copy 0; deliver 0; 3 x drop 0; letters = 1;";
        SCRIPT.run("its BACK takes nobody out", full, "vote 0 0 3 = 16; giveUp 3 0; deliver 1 = 1;",
                "vote 0 0 3 = 16; letters = 4");
        SCRIPT.run("it has a place when another has left", full, "giveUp 2 0; deliver 1 = 1;",
                "vote 0 0 3 = 15; deliver 0 = 1; vote 0 0 3 = 16; letters = 3");
    }

    private static void fullRowMovesUp() {
        SCRIPT.run("the first of 16 is the holder", HOLDING, Scenes.waits(16), "release 0 0;",
                "deliver 0 = 1; vote 0 0 0 = 1; vote 0 0 1 = 1; vote 0 0 3 = 15; vote 0 0 4 = 2;",
                "letters = 4; shows 3 = 2 1 0 1 0 1; 3 x drop 0; want 7 0 = 3; deliver 1 = 1;",
                "vote 0 0 3 = 16");
        // Each vote is late: its BACK moves the row, down to nobody.
        SCRIPT.run("down to the last of 16", HOLDING, Scenes.waits(16), "release 0 0;",
                "3 x drop 1; deliver 0; 28 x deliver 0 = 1; vote 0 0 3 = 1; vote 0 0 0 = 1;",
                "vote 0 0 1 = 3; vote 0 0 4 = 2; 2 x deliver 0 = 1; vote 0 0 0 = 2;",
                "vote 0 0 1 = 3; vote 0 0 3 = 0; vote 0 0 4 = -1; 2 x deliver 0 = 1;",
                "vote 0 0 0 = -1; vote 0 0 1 = -1; letters = 0; vote 0 0 2 = 1");
    }

    // NUMBER(n) of its holder: the number stored is n, if that is greater, and STORED goes back.

    private static void numberGreaterEqualLower() {
        SCRIPT.run("greater", WRITING, "vote 0 0 2 = 0; deliver 0; vote 0 0 2 = 1; letters = 4;",
                "shows 3 = 4 0 0 1 0 0");
        SCRIPT.run("equal", WRITING, "copy 0; deliver 0; deliver 3 = 1; vote 0 0 2 = 1;",
                "letters = 5; shows 3 = 4 0 0 1 0 0; shows 4 = 4 0 0 1 0 0");
        // Client 0 asks again by a doubled ASK when its permit 1 is broken and 2 was given.
        SCRIPT.run("lower", "want 0 0; copy 0; 4 x deliver 0; 4 x deliver 1; copy 1;",
                "4 x deliver 1; 4 x deliver 2; state 0 0 = 3; letters = 2; breakPermit 0 1 = 0;",
                "16 x deliver 2; want 1 0; 16 x deliver 2; permit 1 0 = 2; vote 0 0 2 = 2;",
                "release 1 0; 4 x deliver 2; letters = 2; deliver 0 = 1; vote 0 0 0 = 0;",
                "shows 1 = 2 0 0 1 0 2; shows 0 = 3 0 0 1 0 1; deliver 0 = 1; vote 0 0 2 = 2;",
                "letters = 2; shows 1 = 4 0 0 1 0 0");
    }

    // Of another one: nothing.

    private static void numberOfAnother() {
        SCRIPT.run("no holder", WRITING, "giveUp 0 0; deliver 4; vote 0 0 0 = -1; letters = 7;",
                "deliver 0 = 1; letters = 6; vote 0 0 2 = 0");
        SCRIPT.run("another client holds", WRITING, "giveUp 0 0; deliver 4; want 1 0; deliver 7;",
                "vote 0 0 0 = 1; letters = 11; deliver 0 = 1; letters = 10; vote 0 0 2 = 0");
        SCRIPT.run("another run of it holds", WRITING, "giveUp 0 0; deliver 4; want 0 0;",
                "deliver 7; vote 0 0 1 = 2; letters = 11; deliver 0 = 1; letters = 10;",
                "vote 0 0 2 = 0");
        // A doubled ASK of run 1 comes when its vote has gone back and on to client 1.
        SCRIPT.run("it waits", "want 0 0; copy 0; 4 x deliver 0; 4 x deliver 1; giveUp 0 0;",
                "deliver 5; want 1 0; deliver 8; deliver 0; vote 0 0 0 = 1; vote 0 0 4 = 0;",
                "letters = 11; shows 0 = 3 0 0 1 0 1; deliver 0 = 1; vote 0 0 2 = 0; letters = 10;",
                "vote 0 0 3 = 1; vote 0 0 0 = 1");
    }

    // BACK: who waits does no more.

    private static void backOfWhoWaits() {
        String three = HOLDING + "want 1 0; want 2 0; want 3 0; 12 x deliver 0;";
        SCRIPT.run("the first", three, "giveUp 1 0; deliver 0 = 1; vote 0 0 3 = 2; letters = 3;",
                "vote 0 0 4 = 2; vote 0 0 0 = 0; release 0 0; deliver 3; vote 0 0 0 = 2;",
                "vote 0 0 4 = 3");
        SCRIPT.run("the second", three, "giveUp 2 0; deliver 0 = 1; vote 0 0 3 = 2; letters = 3;",
                "vote 0 0 4 = 1; vote 0 0 0 = 0; release 0 0; deliver 3; vote 0 0 0 = 1;",
                "vote 0 0 4 = 3");
        SCRIPT.run("the last", three, "giveUp 3 0; deliver 0 = 1; vote 0 0 3 = 2; letters = 3;",
                "vote 0 0 4 = 1; vote 0 0 0 = 0; release 0 0; deliver 3; vote 0 0 0 = 1;",
                "vote 0 0 4 = 2");
        SCRIPT.run("the only one", HOLDING, "want 1 0; 4 x deliver 0; giveUp 1 0; deliver 0 = 1;",
                "vote 0 0 3 = 0; vote 0 0 4 = -1; vote 0 0 0 = 0");
    }

    // The holder is it no more: the first that waits is, and VOTE goes to that.

    private static void backOfTheHolder() {
        SCRIPT.run("nobody waits", HOLDING, "release 0 0; deliver 0 = 1; letters = 3;",
                "vote 0 0 0 = -1; vote 0 0 1 = -1; vote 0 0 2 = 1; vote 0 0 3 = 0");
        SCRIPT.run("one waits", HOLDING, "want 1 0; 4 x deliver 0; release 0 0; deliver 0 = 1;",
                "letters = 4; shows 3 = 2 1 0 1 0 1; vote 0 0 0 = 1; vote 0 0 3 = 0;",
                "vote 0 0 4 = -1");
    }

    private static void backOfNeither() {
        SCRIPT.run("no holder", "want 0 0; giveUp 0 0; deliver 4 = 1; letters = 7;",
                "vote 0 0 0 = -1");
        SCRIPT.run("a second time", HOLDING, "want 1 0; 4 x deliver 0; release 0 0; copy 0;",
                "deliver 0; vote 0 0 0 = 1; letters = 5; deliver 3 = 1; vote 0 0 0 = 1;",
                "letters = 4");
        SCRIPT.run("of an earlier run of the holder", "want 0 0; giveUp 0 0; copy 4; 4 x drop 0;",
                "want 0 0; deliver 5; vote 0 0 1 = 2; deliver 0 = 1; vote 0 0 1 = 2;",
                "deliver 3 = 1; vote 0 0 1 = 2");
        SCRIPT.run("before the ASK of its run", "want 0 0; giveUp 0 0; deliver 4 = 1;",
                "deliver 0 = 1; vote 0 0 0 = 0; letters = 7; shows 6 = 2 0 0 1 0 0");
    }

    // BROKEN of a client's run: as BACK.

    private static void brokenIsAsBack() {
        SCRIPT.run("the holder, nobody waits", BROKEN, "deliver 0 = 1; vote 0 0 0 = -1;",
                "letters = 15; vote 0 0 2 = 1");
        SCRIPT.run("the holder, one waits", HOLDING, "want 1 0; 4 x deliver 0; breakPermit 0 1;",
                "deliver 0 = 1; vote 0 0 0 = 1; vote 0 0 3 = 0; letters = 16;",
                "shows 15 = 2 1 0 1 0 1");
        // Client 0 never left arbiter 7, so that client 1, which went round it, waits there.
        SCRIPT.run("one that waits", HOLDING, "release 0 0; drop 3; 3 x deliver 0; want 1 0;",
                "timeout 1 0 7; 5 x deliver 0; 4 x deliver 0; 8 x deliver 0; permit 1 0 = 2;",
                "vote 7 0 0 = 0; vote 7 0 4 = 1; breakPermit 0 2 = 1; deliver 7 = 1;",
                "vote 7 0 3 = 0; vote 7 0 0 = 0; letters = 15");
        SCRIPT.run("where it is neither", BROKEN, "deliver 14 = 1; letters = 15;",
                "vote 14 0 0 = -1");
        SCRIPT.run("another run of the client", BROKEN, "copy 0; 16 x deliver 0; release 0 0;",
                "4 x deliver 1; want 0 0 = 2; deliver 1; vote 0 0 1 = 2; letters = 5;",
                "shows 0 = 6 0 0 1 0 1; deliver 0 = 1; vote 0 0 1 = 2; letters = 4");
        SCRIPT.run("one of another crane", "want 0 0; want 1 1; 32 x deliver 0; breakPermit 0 1;",
                "16 x deliver 0; vote 0 1 0 = 1; vote 0 0 0 = -1");
    }

    // ORDER(n, code): if n is not below the highest ...

    private static void ordersBelowAtAndAbove() {
        // Orders with 1, 2 and 3 are on their way, at places 0 to 2, and nothing else.
        String orders = HOLDING + "order 0 0 10; release 0 0; 4 x deliver 1; want 1 0;"
                + "16 x deliver 1; order 1 0 20; release 1 0; 4 x deliver 2; want 2 0;"
                + "16 x deliver 2; order 2 0 30; letters = 3;";
        SCRIPT.run("above 0", orders, "highest 0 = 0; deliver 0 = 1; orders 0 = 1; highest 0 = 1");
        SCRIPT.run("below", orders, "deliver 1; highest 0 = 2; deliver 0 = 1; orders 0 = 1;",
                "highest 0 = 2; done 0 0 0 = 2; done 0 1 0 = -1");
        SCRIPT.run("at", orders, "copy 1; deliver 1; deliver 2 = 1; orders 0 = 2; highest 0 = 2;",
                "done 0 1 0 = 2; done 0 1 1 = 20");
        SCRIPT.run("above", orders, "deliver 1; deliver 1 = 1; orders 0 = 2; highest 0 = 3;",
                "done 0 1 0 = 3; done 0 1 1 = 30");
        SCRIPT.run("each crane has its own", HOLDING, "want 1 1; 16 x deliver 0; order 0 0 1;",
                "deliver 0; highest 0 = 1; highest 1 = 0; orders 1 = 0");
    }

    // ... and above all that it was told as broken, it is DONE, and n the highest.

    private static void ordersAtAndAboveTheBroken() {
        SCRIPT.run("told as broken before", BROKEN, "order 0 0 5; deliver 15; highest 0 = 1;",
                "deliver 15 = 1; orders 0 = 0; highest 0 = 1");
        SCRIPT.run("told as broken after", BROKEN, "order 0 0 5; deliver 16 = 1; orders 0 = 1;",
                "deliver 15; orders 0 = 1; done 0 0 1 = 5; order 0 0 6; deliver 15 = 1;",
                "orders 0 = 1");
        String oneBroken = BROKEN + "16 x deliver 0; order 0 0 5; want 1 0; 16 x deliver 1;"
                + "permit 1 0 = 2; order 1 0 6; letters = 2;";
        SCRIPT.run("at it", oneBroken, "deliver 0 = 1; orders 0 = 0; highest 0 = 1");
        SCRIPT.run("above it", oneBroken, "deliver 1 = 1; orders 0 = 1; highest 0 = 2");
        SCRIPT.run("below the higher of two", oneBroken, "breakPermit 0 2 = 1; deliver 17 = 1;",
                "highest 0 = 2; deliver 0 = 1; deliver 0 = 1; orders 0 = 0; highest 0 = 2");
        // 1 is told as broken after 2: 2 is broken still.
        SCRIPT.run("the greatest counts, not the latest", BROKEN, "15 x deliver 0; want 1 0;",
                "16 x deliver 1; breakPermit 0 2 = 1; 15 x drop 1; letters = 2; deliver 1;",
                "deliver 0; highest 0 = 2; order 1 0 8; deliver 0 = 1; orders 0 = 0");
    }

    // BROKEN(n): the highest is n, if that is greater.

    private static void brokenBelowAtAndAbove() {
        SCRIPT.run("above", BROKEN, "highest 0 = 0; deliver 15 = 1; highest 0 = 1; orders 0 = 0");
        SCRIPT.run("at", HOLDING, "order 0 0 5; deliver 0; highest 0 = 1; breakPermit 0 1;",
                "deliver 15 = 1; highest 0 = 1; orders 0 = 1");
        SCRIPT.run("below", BROKEN, "15 x deliver 0; want 1 0; 16 x deliver 1; order 1 0 6;",
                "deliver 1; highest 0 = 2; deliver 0 = 1; highest 0 = 2; order 1 0 7;",
                "deliver 0 = 1; orders 0 = 2");
        SCRIPT.run("twice", BROKEN, "copy 15; deliver 15; deliver 15 = 1; highest 0 = 1");
    }

    // It is BROKEN from then on, and BROKEN goes to arbiters 0 to 14 and to the crane.

    private static void breakingTellsAllArbitersAndTheCrane() {
        SCRIPT.run("to each and no more", BROKEN, "letters = 16; shows 0 = 6 0 0 1 0 1;",
                "shows 1 = 6 0 0 1 1 1; shows 13 = 6 0 0 1 13 1; shows 14 = 6 0 0 1 14 1;",
                "shows 15 = 7 0 0 1 -1 1; shows 16 = -1 -1 -1 -1 -1 -1; state 0 0 = 4");
        SCRIPT.run("also to those that are down", HOLDING, ALL_STOP, "breakPermit 0 1 = 0;",
                "letters = 16; state 0 0 = 4; 16 x deliver 0; state 0 0 = 4; vote 0 0 0 = 0");
    }

    // In the order told (arbiters by their numbers).

    private static void arbitersByTheirNumbers() {
        SCRIPT.run("ASK", "want 0 0; 4 x drop 0; timeout 0 0 0; letters = 3;",
                "shows 0 = 1 0 0 1 2 0; shows 1 = 1 0 0 1 5 0; shows 2 = 1 0 0 1 11 0");
        // The route is 0, 3, 4, 7 and 9; 9 and 4 are asked last.
        SCRIPT.run("NUMBER and BACK", "want 0 0; timeout 0 0 1; 6 x deliver 0; 6 x deliver 0;",
                "state 0 0 = 2; letters = 5; shows 0 = 3 0 0 1 0 1; shows 1 = 3 0 0 1 3 1;",
                "shows 2 = 3 0 0 1 4 1; shows 3 = 3 0 0 1 7 1; shows 4 = 3 0 0 1 9 1; 5 x drop 0;",
                "giveUp 0 0; letters = 6; shows 0 = 5 0 0 1 0 0; shows 1 = 5 0 0 1 1 0;",
                "shows 2 = 5 0 0 1 3 0; shows 3 = 5 0 0 1 4 0; shows 4 = 5 0 0 1 7 0;",
                "shows 5 = 5 0 0 1 9 0");
    }

    // An object is used for at most 512 calls after it has been made.

    private static void fiveHundredAndTwelveCalls() {
        StringBuilder runs = new StringBuilder();
        for (int run = 1; run <= 255; run++) {
            runs.append("want 0 0 = ").append(run).append("; giveUp 0 0 = 1;");
        }
        SCRIPT.run("the 511th and the 512th", runs.toString(), "want 0 0 = 256; letters = 240");
        StringBuilder orders = new StringBuilder();
        for (int code = 0; code < 246; code++) {
            orders.append("order 0 0 ").append(code).append(" = 1; deliver 0 = 1;");
        }
        SCRIPT.run("as many orders as can be", HOLDING, orders.toString(),
                "orders 0 = 246; done 0 245 1 = 245; done 0 182 1 = 182");
        SCRIPT.run("another, with as many", HOLDING, orders.toString(), "done 0 181 1 = -1");
    }

    private EdgeTermsTest() {
    }
}
