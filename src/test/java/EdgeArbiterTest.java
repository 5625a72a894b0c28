/** The boundary cases of promises 8, 9 and 18, a test for each. */
public final class EdgeArbiterTest {
    private static final Check CHECK = new Check();
    private static final Script SCRIPT = new Script(CHECK);

    private static final String HOLDING = Scenes.HOLDING;

    public static void main(String[] args) {
        stopOfNoneSuch();
        stopOfOneThatIsDown();
        startOfNoneSuch();
        startOfOneThatIsUp();
        voteOfNoneSuch();
        voteOfOtherThings();
        voteWhereThereIsNone();
        voteWithAFullRow();
        CHECK.end();
    }

    // Promise 8: An arbiter goes down: true; false if there is none such, or it is.

    private static void stopOfNoneSuch() {
        SCRIPT.run("the first and the last", "stop 0 = 1; stop 14 = 1; start 1 = 0; start 13 = 0");
        SCRIPT.refused("arbiters", "want 0 0;", "stop -1 = 0; stop 15 = 0; stop 16 = 0;"
                + "stop 31 = 0; stop 32 = 0; stop 46 = 0; stop -32 = 0; stop min = 0;"
                + "stop max = 0");
    }

    private static void stopOfOneThatIsDown() {
        for (int arbiter = 0; arbiter < 15; arbiter++) {
            SCRIPT.refused("twice", "want 0 0; stop " + arbiter + ";", "stop " + arbiter + " = 0");
        }
        SCRIPT.run("stopped twice, one start is enough", "stop 3; stop 3 = 0; start 3 = 1;",
                "start 3 = 0; want 0 0; deliver 2; vote 3 0 0 = 0");
        SCRIPT.run("down again", "stop 3 = 1; start 3 = 1; stop 3 = 1; stop 3 = 0");
    }

    // Promise 9: An arbiter comes up again: true; false if there is none such, or it is.

    private static void startOfNoneSuch() {
        String allDown = "stop 0; stop 1; stop 2; stop 3; stop 4; stop 5; stop 6; stop 7; stop 8;"
                + "stop 9; stop 10; stop 11; stop 12; stop 13; stop 14; want 0 0;";
        SCRIPT.run("the first and the last", allDown, "start 0 = 1; start 14 = 1; start 0 = 0;",
                "start 14 = 0; stop 1 = 0; stop 13 = 0");
        SCRIPT.refused("arbiters", allDown, "start -1 = 0; start 15 = 0; start 16 = 0;"
                + "start 31 = 0; start 32 = 0; start 46 = 0; start -32 = 0; start min = 0;"
                + "start max = 0");
    }

    private static void startOfOneThatIsUp() {
        for (int arbiter = 0; arbiter < 15; arbiter++) {
            SCRIPT.refused("up at first", "want 0 0;", "start " + arbiter + " = 0");
            SCRIPT.refused("up again", "stop " + arbiter + "; start " + arbiter + ";",
                    "start " + arbiter + " = 0");
        }
        SCRIPT.run("what came while it was down stays lost", "stop 0; want 0 0; deliver 0;",
                "start 0 = 1; letters = 3; vote 0 0 0 = -1");
        SCRIPT.run("what comes after does not", "stop 0; want 0 0; copy 0; deliver 0; start 0 = 1;",
                "deliver 3 = 1; vote 0 0 0 = 0; letters = 4; shows 3 = 2 0 0 1 0 0");
    }

    // Promise 18: NONE where there is none.

    private static void voteOfNoneSuch() {
        SCRIPT.run("the first and the last", "vote 0 0 2 = 0; vote 14 0 2 = 0; vote 0 3 2 = 0;",
                "vote 14 3 2 = 0; vote 14 3 3 = 0");
        SCRIPT.refused("arbiters", HOLDING, "vote -1 0 0 = -1; vote -1 0 2 = -1; vote -1 0 3 = -1;"
                + "vote 15 0 0 = -1; vote 15 0 2 = -1; vote 15 0 3 = -1; vote -1 4 2 = -1;"
                + "vote 1 -4 2 = -1; vote min 0 2 = -1; vote max 0 2 = -1;"
                + "vote 1073741824 0 2 = -1");
        SCRIPT.refused("cranes", HOLDING, "vote 0 -1 0 = -1; vote 0 -1 2 = -1; vote 1 -1 3 = -1;"
                + "vote 0 4 0 = -1; vote 0 4 2 = -1; vote 14 4 3 = -1; vote 0 min 2 = -1;"
                + "vote 0 max 2 = -1");
    }

    private static void voteOfOtherThings() {
        SCRIPT.run("the first and the last thing", HOLDING, "want 1 0; 4 x deliver 0;",
                "vote 0 0 0 = 0; vote 0 0 4 = 1");
        SCRIPT.refused("what", HOLDING + "want 1 0; 4 x deliver 0;", "vote 0 0 -1 = -1;"
                + "vote 0 0 5 = -1; vote 0 0 6 = -1; vote 0 0 min = -1; vote 0 0 max = -1");
    }

    private static void voteWhereThereIsNone() {
        SCRIPT.run("nobody ever asked", "vote 0 0 0 = -1; vote 0 0 1 = -1; vote 0 0 2 = 0;",
                "vote 0 0 3 = 0; vote 0 0 4 = -1");
        SCRIPT.run("a holder alone", "want 0 0; deliver 0; vote 0 0 0 = 0; vote 0 0 1 = 1;",
                "vote 0 0 2 = 0; vote 0 0 3 = 0; vote 0 0 4 = -1");
        SCRIPT.run("one waits", "want 0 0; want 7 0; deliver 4; deliver 0; vote 0 0 0 = 7;",
                "vote 0 0 1 = 1; vote 0 0 3 = 1; vote 0 0 4 = 0");
        SCRIPT.run("a holder no more", HOLDING, "release 0 0; 4 x deliver 0; vote 0 0 0 = -1;",
                "vote 0 0 1 = -1; vote 0 0 2 = 1; vote 0 0 3 = 0; vote 0 0 4 = -1");
        SCRIPT.run("one that no route asked", HOLDING, "vote 2 0 0 = -1; vote 2 0 1 = -1;",
                "vote 2 0 2 = 0; vote 2 0 3 = 0; vote 2 0 4 = -1");
        SCRIPT.run("another crane", HOLDING, "vote 0 1 0 = -1; vote 0 1 1 = -1; vote 0 1 2 = 0");
        SCRIPT.run("one that is down tells too", HOLDING, "stop 0; vote 0 0 0 = 0; vote 0 0 2 = 1");
    }

    private static void voteWithAFullRow() {
        SCRIPT.run("15, 16 and still 16", HOLDING, Scenes.waits(15), "vote 0 0 3 = 15;",
                "want 2 0; deliver 0; vote 0 0 3 = 16; want 3 0; deliver 3; vote 0 0 3 = 16;",
                "vote 0 0 4 = 1; vote 0 0 0 = 0; vote 0 0 1 = 1");
    }

    private EdgeArbiterTest() {
    }
}
