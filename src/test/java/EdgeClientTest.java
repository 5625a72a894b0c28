/** The boundary cases of promises 1 to 5 and 15 to 17, a test for each. */
public final class EdgeClientTest {
    private static final Check CHECK = new Check();
    private static final Script SCRIPT = new Script(CHECK);

    private static final String ASKING = Scenes.ASKING;
    private static final String WRITING = Scenes.WRITING;
    private static final String HOLDING = Scenes.HOLDING;
    private static final String BROKEN = Scenes.BROKEN;
    private static final String ENDED = HOLDING + "release 0 0; 4 x deliver 0;";
    private static final String FULL = "want 1 1; 16 x deliver 0;" + Scenes.FULL;

    public static void main(String[] args) {
        newObject();
        wantOfNoneSuch();
        wantOfOneThatIsAtIt();
        wantOverAFullPost();
        timeoutOfNoneSuch();
        timeoutOfOneThatIsNotAsking();
        timeoutOfOneCountedAlready();
        timeoutOverAFullPost();
        giveUpOfNoneSuch();
        giveUpOfOneThatIsNot();
        giveUpOverAFullPost();
        releaseOfNoneSuch();
        releaseOfOneThatIsNot();
        releaseOverAFullPost();
        stateIsZeroToFour();
        stateOfNoneSuch();
        permitIsZeroOrTheNumber();
        permitOfNoneSuch();
        quorumIsZeroOrTheSet();
        quorumOfNoneSuch();
        CHECK.end();
    }

    // Promise 1: All arbiters are up, no client is at a crane, no letters.

    private static void newObject() {
        SCRIPT.run("no letters", "letters = 0; shows 0 = -1 -1 -1 -1 -1 -1; deliver 0 = 0");
        for (int arbiter = 0; arbiter < 15; arbiter++) {
            SCRIPT.run("arbiter " + arbiter + " is up", "start " + arbiter + " = 0");
        }
        for (int client = 0; client < 8; client++) {
            for (int crane = 0; crane < 4; crane++) {
                String pair = " " + client + " " + crane;
                SCRIPT.run(pair + " is not at it", "state" + pair + " = 0; giveUp" + pair + " = 0;",
                        "release" + pair + " = 0; want" + pair + " = 1");
            }
        }
        SCRIPT.run("objects do not share anything", HOLDING, "stop 3; order 0 0 1; letters = 1");
        SCRIPT.run("and the next is new", "letters = 0; state 0 0 = 0; start 3 = 0; want 0 0 = 1");
    }

    // Promise 2: NONE, and nothing happens, if there is none such, or it is at it.

    private static void wantOfNoneSuch() {
        SCRIPT.run("the first and the last", "want 0 0 = 1; want 0 3 = 2; want 7 0 = 1;",
                "want 7 3 = 2; letters = 16; state 7 3 = 1");
        SCRIPT.refused("clients", "", "want -1 0 = -1; want 8 0 = -1; want 8 3 = -1;"
                + "want -1 3 = -1; want min 0 = -1; want max 0 = -1; want 1073741824 0 = -1");
        SCRIPT.refused("cranes", "", "want 0 -1 = -1; want 0 4 = -1; want 7 4 = -1; want 7 -1 = -1;"
                + "want 0 min = -1; want 0 max = -1");
        SCRIPT.refused("both", "", "want -1 4 = -1; want 8 -1 = -1; want 1 -4 = -1;"
                + "want -1 7 = -1");
    }

    private static void wantOfOneThatIsAtIt() {
        SCRIPT.refused("asking", ASKING, "want 0 0 = -1");
        SCRIPT.refused("asking without a route", Scenes.NO_ROUTE, "want 0 0 = -1");
        SCRIPT.refused("writing", WRITING, "want 0 0 = -1");
        SCRIPT.refused("holding", HOLDING, "want 0 0 = -1");
        SCRIPT.refused("holding what is broken", BROKEN, "want 0 0 = -1");
        SCRIPT.run("after giveUp, not", ASKING, "giveUp 0 0; want 0 0 = 2; letters = 12");
        SCRIPT.run("after release, not", ENDED, "want 0 0 = 2; letters = 4");
        SCRIPT.run("after release of a broken one, not", BROKEN, "release 0 0; want 0 0 = 2");
        SCRIPT.run("another crane, not", HOLDING, "want 0 1 = 2; want 0 0 = -1; want 0 2 = 3");
    }

    private static void wantOverAFullPost() {
        SCRIPT.run("no place", FULL, "letters = 240; want 2 2 = 1; letters = 240; state 2 2 = 1;",
                "want 2 2 = -1; want 2 3 = 2");
        SCRIPT.run("one place", FULL, "drop 0; want 2 2 = 1; letters = 240;",
                "shows 239 = 1 2 2 1 0 0");
        SCRIPT.run("three places", FULL, "3 x drop 0; want 2 2 = 1; letters = 240;",
                "shows 236 = 1 0 0 1 0 0; shows 237 = 1 2 2 1 0 0; shows 239 = 1 2 2 1 3 0");
        SCRIPT.run("four places", FULL, "4 x drop 0; want 2 2 = 1; letters = 240;",
                "shows 236 = 1 2 2 1 0 0; shows 239 = 1 2 2 1 7 0");
    }

    // Promise 3: false if there is none such, it is not asking, or it is counted so already.

    private static void timeoutOfNoneSuch() {
        SCRIPT.run("the first and the last arbiter", ASKING, "timeout 0 0 0 = 1; letters = 7;",
                "timeout 0 0 14 = 1; letters = 7");
        SCRIPT.run("the last client and crane", "want 7 3; timeout 7 3 14 = 1; timeout 7 3 7 = 1;",
                "letters = 5; shows 4 = 1 7 3 1 8 0");
        SCRIPT.refused("arbiters", ASKING, "timeout 0 0 -1 = 0; timeout 0 0 15 = 0;"
                + "timeout 0 0 16 = 0; timeout 0 0 32 = 0; timeout 0 0 39 = 0; timeout 0 0 -25 = 0;"
                + "timeout 0 0 min = 0; timeout 0 0 max = 0");
        SCRIPT.refused("clients", "want 0 0; want 7 3;", "timeout -1 0 0 = 0; timeout 8 3 0 = 0;"
                + "timeout -1 4 0 = 0; timeout 1 -4 0 = 0; timeout min 0 0 = 0;"
                + "timeout max 3 0 = 0; timeout 1073741824 0 0 = 0");
        SCRIPT.refused("cranes", "want 0 0; want 7 3;", "timeout 0 -1 0 = 0; timeout 7 4 0 = 0;"
                + "timeout 8 -1 0 = 0; timeout 0 31 0 = 0; timeout 0 min 0 = 0;"
                + "timeout 7 max 0 = 0");
    }

    private static void timeoutOfOneThatIsNotAsking() {
        SCRIPT.refused("at no crane", "", "timeout 0 0 0 = 0; timeout 7 3 14 = 0");
        SCRIPT.refused("at another crane", ASKING, "timeout 0 1 0 = 0; timeout 1 0 0 = 0");
        SCRIPT.refused("writing", WRITING, "timeout 0 0 0 = 0; timeout 0 0 14 = 0");
        SCRIPT.refused("holding", HOLDING, "timeout 0 0 0 = 0; timeout 0 0 14 = 0");
        SCRIPT.refused("holding what is broken", BROKEN, "timeout 0 0 0 = 0; timeout 0 0 14 = 0");
        SCRIPT.refused("ended", ENDED, "timeout 0 0 0 = 0; timeout 0 0 14 = 0");
    }

    private static void timeoutOfOneCountedAlready() {
        for (int arbiter = 0; arbiter < 15; arbiter++) {
            String timeout = "timeout 0 0 " + arbiter;
            SCRIPT.run("once", ASKING, timeout + " = 1");
            SCRIPT.refused("twice", ASKING + timeout + ";", timeout + " = 0");
        }
        SCRIPT.run("also one that has voted", "want 0 0; deliver 3; deliver 3; quorumOf 0 0 = 128;",
                "timeout 0 0 7 = 1; quorumOf 0 0 = 0; timeout 0 0 7 = 0; letters = 4;",
                "shows 3 = 1 0 0 1 8 0");
        SCRIPT.run("also one that is down", "stop 7; want 0 0; timeout 0 0 7 = 1;",
                "timeout 0 0 7 = 0; start 7; timeout 0 0 7 = 0");
    }

    private static void timeoutOverAFullPost() {
        SCRIPT.run("no place", Scenes.FULL, "timeout 0 0 7 = 1; letters = 240;",
                "shows 239 = 1 0 0 1 0 0; timeout 0 0 7 = 0");
        SCRIPT.run("one place for two", Scenes.FULL, "drop 4; timeout 0 0 1 = 1; letters = 240;",
                "shows 239 = 1 0 0 1 4 0");
        SCRIPT.run("a lost ASK was sent", Scenes.FULL, "timeout 0 0 7; 5 x drop 0; timeout 0 0 3;",
                "letters = 237; shows 235 = 1 0 0 1 4 0; shows 236 = 1 0 0 1 9 0; 5 x drop 0;",
                "giveUp 0 0; letters = 239; shows 236 = 5 0 0 1 7 0; shows 237 = 5 0 0 1 8 0");
    }

    // Promise 4: asking or writing: true; false if there is none such, or it is not.

    private static void giveUpOfNoneSuch() {
        SCRIPT.run("the first and the last", "want 0 0; want 7 3; giveUp 0 0 = 1; giveUp 7 3 = 1;",
                "state 0 0 = 0; state 7 3 = 0; letters = 16; shows 15 = 5 7 3 1 7 0");
        SCRIPT.refused("clients", "want 0 0; want 7 3;", "giveUp -1 0 = 0; giveUp 8 3 = 0;"
                + "giveUp -1 4 = 0; giveUp 1 -4 = 0; giveUp min 0 = 0; giveUp max 3 = 0;"
                + "giveUp 1073741824 0 = 0");
        SCRIPT.refused("cranes", "want 0 0; want 7 3;", "giveUp 0 -1 = 0; giveUp 7 4 = 0;"
                + "giveUp 8 -1 = 0; giveUp 0 31 = 0; giveUp 0 min = 0; giveUp 7 max = 0");
    }

    private static void giveUpOfOneThatIsNot() {
        SCRIPT.run("asking", ASKING, "giveUp 0 0 = 1; state 0 0 = 0");
        SCRIPT.run("asking without a route", Scenes.NO_ROUTE, "giveUp 0 0 = 1; state 0 0 = 0");
        SCRIPT.run("writing", WRITING, "giveUp 0 0 = 1; state 0 0 = 0; letters = 8");
        SCRIPT.run("writing still", WRITING, "7 x deliver 0; giveUp 0 0 = 1; state 0 0 = 0");
        SCRIPT.refused("at no crane", "", "giveUp 0 0 = 0; giveUp 7 3 = 0");
        SCRIPT.refused("at another crane", ASKING, "giveUp 0 1 = 0; giveUp 1 0 = 0");
        SCRIPT.refused("holding", HOLDING, "giveUp 0 0 = 0");
        SCRIPT.refused("holding what is broken", BROKEN, "giveUp 0 0 = 0");
        SCRIPT.refused("twice", ASKING + "giveUp 0 0;", "giveUp 0 0 = 0");
        SCRIPT.refused("released", ENDED, "giveUp 0 0 = 0");
    }

    private static void giveUpOverAFullPost() {
        SCRIPT.run("no place", Scenes.FULL, "giveUp 0 0 = 1; letters = 240; state 0 0 = 0;",
                "shows 239 = 1 0 0 1 0 0; giveUp 0 0 = 0");
        SCRIPT.run("one place", Scenes.ONE_PLACE, "giveUp 0 0 = 1; letters = 240; state 0 0 = 0;",
                "shows 239 = 5 0 0 1 0 0");
    }

    // Promise 5: holding: true; false if there is none such, or it is not.

    private static void releaseOfNoneSuch() {
        String both = "want 0 0; want 7 3; 32 x deliver 0;";
        SCRIPT.run("the first and the last", both, "release 0 0 = 1; release 7 3 = 1; letters = 8;",
                "state 0 0 = 0; state 7 3 = 0; shows 7 = 5 7 3 1 7 0");
        SCRIPT.refused("clients", both, "release -1 0 = 0; release 8 3 = 0; release -1 4 = 0;"
                + "release 1 -4 = 0; release min 0 = 0; release max 3 = 0;"
                + "release 1073741824 0 = 0");
        SCRIPT.refused("cranes", both, "release 0 -1 = 0; release 7 4 = 0; release 8 -1 = 0;"
                + "release 0 31 = 0; release 0 min = 0; release 7 max = 0");
    }

    private static void releaseOfOneThatIsNot() {
        SCRIPT.run("holding", HOLDING, "release 0 0 = 1; state 0 0 = 0; letters = 4");
        SCRIPT.run("holding what is broken", BROKEN, "release 0 0 = 1; state 0 0 = 0;",
                "letters = 20; shows 16 = 5 0 0 1 0 0; shows 19 = 5 0 0 1 7 0");
        SCRIPT.refused("at no crane", "", "release 0 0 = 0; release 7 3 = 0");
        SCRIPT.refused("at another crane", HOLDING, "release 0 1 = 0; release 1 0 = 0");
        SCRIPT.refused("asking", ASKING, "release 0 0 = 0");
        SCRIPT.refused("asking, all votes but one", ASKING + "7 x deliver 0;", "release 0 0 = 0");
        SCRIPT.refused("writing", WRITING, "release 0 0 = 0");
        SCRIPT.refused("writing, all stored but one", WRITING + "7 x deliver 0;",
                "release 0 0 = 0");
        SCRIPT.refused("twice", HOLDING + "release 0 0;", "release 0 0 = 0");
    }

    private static void releaseOverAFullPost() {
        SCRIPT.run("no place", FULL, "release 1 1 = 1; letters = 240; state 1 1 = 0;",
                "shows 239 = 1 0 0 1 0 0; vote 0 1 0 = 1");
        SCRIPT.run("two places", FULL, "2 x drop 0; release 1 1 = 1; letters = 240;",
                "shows 238 = 5 1 1 1 0 0; shows 239 = 5 1 1 1 1 0");
    }

    // Promise 15: 0 nothing, 1 asking, 2 writing, 3 holding, 4 holding what is broken.

    private static void stateIsZeroToFour() {
        SCRIPT.run("each", "state 0 0 = 0; want 0 0; state 0 0 = 1; 7 x deliver 0; state 0 0 = 1;",
                "deliver 0; state 0 0 = 2; 7 x deliver 0; state 0 0 = 2; deliver 0;",
                "state 0 0 = 3; breakPermit 0 1; state 0 0 = 4; 16 x deliver 0; state 0 0 = 4;",
                "release 0 0; state 0 0 = 0");
        SCRIPT.run("the first and the last", "want 0 3; want 7 0; state 0 3 = 1; state 7 0 = 1;",
                "state 0 0 = 0; state 7 3 = 0; state 0 2 = 0; state 1 0 = 0");
    }

    // NONE if there is none such.

    private static void stateOfNoneSuch() {
        SCRIPT.refused("clients", "want 0 0; want 7 3;", "state -1 0 = -1; state 8 3 = -1;"
                + "state 8 0 = -1; state -1 4 = -1; state 1 -4 = -1; state min 0 = -1;"
                + "state max 3 = -1; state 1073741824 0 = -1");
        SCRIPT.refused("cranes", "want 0 0; want 7 3;", "state 0 -1 = -1; state 7 4 = -1;"
                + "state 0 4 = -1; state 8 -1 = -1; state 0 31 = -1; state 0 min = -1;"
                + "state 7 max = -1");
    }

    // Promise 16: broken or not; 0 if it holds none, or there is none such.

    private static void permitIsZeroOrTheNumber() {
        SCRIPT.run("each state", "permit 0 0 = 0; want 0 0; permit 0 0 = 0; 8 x deliver 0;",
                "permit 0 0 = 0; 7 x deliver 0; permit 0 0 = 0; deliver 0; permit 0 0 = 1;",
                "breakPermit 0 1; permit 0 0 = 1; 16 x deliver 0; permit 0 0 = 1; release 0 0;",
                "permit 0 0 = 0");
        SCRIPT.run("a number of before is forgotten", ENDED, "want 0 0; permit 0 0 = 0;",
                "8 x deliver 0; state 0 0 = 2; permit 0 0 = 0; 8 x deliver 0; permit 0 0 = 2");
        SCRIPT.run("the last of both", "want 7 3; 16 x deliver 0; permit 7 3 = 1; permit 7 2 = 0;",
                "permit 6 3 = 0");
    }

    private static void permitOfNoneSuch() {
        String both = "want 0 0; want 7 3; 32 x deliver 0;";
        SCRIPT.run("both hold", both, "permit 0 0 = 1; permit 7 3 = 1");
        SCRIPT.refused("clients", both, "permit -1 0 = 0; permit 8 3 = 0; permit -1 4 = 0;"
                + "permit 1 -4 = 0; permit min 0 = 0; permit max 3 = 0; permit 1073741824 0 = 0");
        SCRIPT.refused("cranes", both, "permit 0 -1 = 0; permit 7 4 = 0; permit 8 -1 = 0;"
                + "permit 0 31 = 0; permit 0 min = 0; permit 7 max = 0");
    }

    // Promise 17: writing or holding: the quorum; asking: of its route those whose votes it has;
    // 0 otherwise.

    private static void quorumIsZeroOrTheSet() {
        SCRIPT.run("each state", "quorumOf 0 0 = 0; want 0 0; quorumOf 0 0 = 0; 4 x deliver 0;",
                "quorumOf 0 0 = 0; deliver 3; quorumOf 0 0 = 128; 2 x deliver 0;",
                "quorumOf 0 0 = 131; deliver 0; quorumOf 0 0 = 139; state 0 0 = 2; 8 x deliver 0;",
                "state 0 0 = 3; quorumOf 0 0 = 139; breakPermit 0 1; quorumOf 0 0 = 139;",
                "release 0 0; quorumOf 0 0 = 0");
        SCRIPT.run("a vote of one that is not of the route", "want 0 0; deliver 3; deliver 3;",
                "quorumOf 0 0 = 128; timeout 0 0 7; quorumOf 0 0 = 0; deliver 0; deliver 3;",
                "quorumOf 0 0 = 1");
        SCRIPT.run("a vote comes to the route by a silent one", "want 0 0; deliver 3; deliver 3;",
                "quorumOf 0 0 = 128; timeout 0 0 3; quorumOf 0 0 = 128; timeout 0 0 8;",
                "quorumOf 0 0 = 0");
        SCRIPT.run("without a route", "want 0 0; 7 x deliver 0; quorumOf 0 0 = 11; timeout 0 0 0;",
                "quorumOf 0 0 = 10; timeout 0 0 7; timeout 0 0 8; timeout 0 0 9;",
                "quorumOf 0 0 = 2; timeout 0 0 10; quorumOf 0 0 = 0");
        SCRIPT.run("fifteen bits at most", "want 0 0; timeout 0 0 0; timeout 0 0 1; timeout 0 0 2;",
                "timeout 0 0 3; timeout 0 0 4; timeout 0 0 5; timeout 0 0 6; letters = 15;",
                "30 x deliver 0; state 0 0 = 2; quorumOf 0 0 = 32640; 16 x deliver 0;",
                "state 0 0 = 3; quorumOf 0 0 = 32640");
        SCRIPT.run("the votes of before are forgotten", "want 0 0; 7 x deliver 0; giveUp 0 0;",
                "quorumOf 0 0 = 0; want 0 0; quorumOf 0 0 = 0");
    }

    private static void quorumOfNoneSuch() {
        String both = "want 0 0; want 7 3; 32 x deliver 0;";
        SCRIPT.run("both hold", both, "quorumOf 0 0 = 139; quorumOf 7 3 = 139; quorumOf 0 1 = 0");
        SCRIPT.refused("clients", both, "quorumOf -1 0 = 0; quorumOf 8 3 = 0; quorumOf -1 4 = 0;"
                + "quorumOf 1 -4 = 0; quorumOf min 0 = 0; quorumOf max 3 = 0;"
                + "quorumOf 1073741824 0 = 0");
        SCRIPT.refused("cranes", both, "quorumOf 0 -1 = 0; quorumOf 7 4 = 0; quorumOf 8 -1 = 0;"
                + "quorumOf 0 31 = 0; quorumOf 0 min = 0; quorumOf 7 max = 0");
    }

    private EdgeClientTest() {
    }
}
