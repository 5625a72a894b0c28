/** The boundary cases of promises 10 to 14 and of the post's own sentences, a test for each. */
public final class EdgePostTest {
    private static final Check CHECK = new Check();
    private static final Script SCRIPT = new Script(CHECK);

    private static final String ASKING = Scenes.ASKING;
    private static final String WRITING = Scenes.WRITING;
    private static final String HOLDING = Scenes.HOLDING;
    private static final String BROKEN = Scenes.BROKEN;
    private static final String ONE_PLACE = Scenes.ONE_PLACE;
    private static final String FULL = Scenes.FULL;

    public static void main(String[] args) {
        lettersFromNoneTo240();
        letterOfNoneSuch();
        letterOfOtherThings();
        letterWithoutArbiterOrNumber();
        deliverOfNoneSuch();
        deliverTheFirstAndTheLast();
        deliverFromAFullPost();
        dropOfNoneSuch();
        dropTheFirstAndTheLast();
        copyOfNoneSuch();
        copyTo240();
        copyOfEachKind();
        whatIsSentComesBehind();
        answersOverAFullPost();
        manyLettersOverAFullPost();
        CHECK.end();
    }

    // Promise 10: How many letters are on their way.

    private static void lettersFromNoneTo240() {
        SCRIPT.run("none", "letters = 0; want 0 0; letters = 4; 4 x drop 0; letters = 0");
        SCRIPT.run("239 and 240", ONE_PLACE, "letters = 239; copy 0 = 1; letters = 240;",
                "want 1 0 = 1; letters = 240; drop 0; letters = 239");
    }

    // Promise 11: NONE if there is none such.

    private static void letterOfNoneSuch() {
        SCRIPT.run("empty", "shows 0 = -1 -1 -1 -1 -1 -1; shows -1 = -1 -1 -1 -1 -1 -1");
        SCRIPT.run("the first and the last", ASKING, "shows 0 = 1 0 0 1 0 0;",
                "shows 3 = 1 0 0 1 7 0; shows -1 = -1 -1 -1 -1 -1 -1; shows 4 = -1 -1 -1 -1 -1 -1;",
                "shows max = -1 -1 -1 -1 -1 -1; shows min = -1 -1 -1 -1 -1 -1;",
                "shows 240 = -1 -1 -1 -1 -1 -1; shows 1073741824 = -1 -1 -1 -1 -1 -1");
        SCRIPT.run("where one was", ASKING, "drop 0; shows 2 = 1 0 0 1 7 0;",
                "shows 3 = -1 -1 -1 -1 -1 -1; 3 x drop 0; shows 0 = -1 -1 -1 -1 -1 -1");
        SCRIPT.run("full", FULL, "shows 239 = 1 0 0 1 0 0; shows 240 = -1 -1 -1 -1 -1 -1;",
                "shows -1 = -1 -1 -1 -1 -1 -1; shows 241 = -1 -1 -1 -1 -1 -1");
    }

    private static void letterOfOtherThings() {
        SCRIPT.refused("what", HOLDING + "order 0 0 99;", "letter 0 0 = 8; letter 0 5 = 1;"
                + "letter 0 -1 = -1; letter 0 6 = -1; letter 0 7 = -1; letter 0 min = -1;"
                + "letter 0 max = -1");
        SCRIPT.refused("what, of one that is not the first", ASKING, "letter 1 0 = 1;"
                + "letter 1 -1 = -1; letter 0 6 = -1; letter 0 7 = -1; letter 3 6 = -1");
    }

    // 4: the arbiter (NONE for 7, 8), 5: the number (2, 3, 6, 7, 8; else 0).

    private static void letterWithoutArbiterOrNumber() {
        String second = HOLDING + "release 0 0; 4 x deliver 0; want 0 0;";
        SCRIPT.run("1 ASK", second, "shows 3 = 1 0 0 2 7 0");
        SCRIPT.run("2 VOTE", second, "4 x deliver 0; shows 3 = 2 0 0 2 7 1");
        SCRIPT.run("2 VOTE with 0", ASKING, "4 x deliver 0; shows 3 = 2 0 0 1 7 0");
        SCRIPT.run("3 NUMBER", second, "8 x deliver 0; shows 3 = 3 0 0 2 7 2");
        SCRIPT.run("4 STORED", second, "12 x deliver 0; shows 3 = 4 0 0 2 7 0");
        SCRIPT.run("5 BACK", second, "16 x deliver 0; release 0 0; shows 3 = 5 0 0 2 7 0");
        SCRIPT.run("6 BROKEN", second, "16 x deliver 0; breakPermit 0 2; shows 14 = 6 0 0 2 14 2");
        SCRIPT.run("7 BROKEN", second, "16 x deliver 0; breakPermit 0 2; shows 15 = 7 0 0 2 -1 2");
        SCRIPT.run("8 ORDER", second, "16 x deliver 0; order 0 0 7; shows 0 = 8 0 0 2 -1 2");
    }

    // Promise 12: false if there is none such.

    private static void deliverOfNoneSuch() {
        SCRIPT.refused("empty", "", "deliver 0 = 0; deliver -1 = 0; deliver 1 = 0;"
                + "deliver 239 = 0");
        SCRIPT.refused("beside the first and the last", ASKING, "deliver -1 = 0; deliver 4 = 0;"
                + "deliver 5 = 0; deliver 239 = 0; deliver 240 = 0; deliver min = 0;"
                + "deliver max = 0; deliver 1073741824 = 0");
        SCRIPT.refused("full", FULL, "deliver -1 = 0; deliver 240 = 0; deliver 241 = 0");
        SCRIPT.refused("empty again", HOLDING, "deliver 0 = 0; deliver -1 = 0");
    }

    private static void deliverTheFirstAndTheLast() {
        SCRIPT.run("the first", ASKING, "deliver 0 = 1; letters = 4; shows 0 = 1 0 0 1 1 0;",
                "shows 3 = 2 0 0 1 0 0; vote 0 0 0 = 0");
        SCRIPT.run("the last", ASKING, "deliver 3 = 1; letters = 4; shows 0 = 1 0 0 1 0 0;",
                "shows 2 = 1 0 0 1 3 0; shows 3 = 2 0 0 1 7 0; vote 7 0 0 = 0");
        SCRIPT.run("the only one", HOLDING, "order 0 0 4; deliver 0 = 1; letters = 0;",
                "orders 0 = 1; deliver 0 = 0; orders 0 = 1");
        SCRIPT.run("the first and the last of 240", FULL, "stop 0; deliver 0 = 1; letters = 239;",
                "shows 0 = 1 0 0 1 1 0; deliver 238 = 1; letters = 238; shows 237 = 1 0 0 1 0 0");
    }

    // The letter at a place comes, and is no more on its way: its answer has a place.

    private static void deliverFromAFullPost() {
        SCRIPT.run("the first of 240", FULL, "deliver 0 = 1; letters = 240; shows 0 = 1 0 0 1 1 0;",
                "shows 238 = 1 0 0 1 0 0; shows 239 = 2 0 0 1 0 0");
        SCRIPT.run("the last of 240", FULL, "deliver 239 = 1; letters = 240;",
                "shows 238 = 1 0 0 1 0 0; shows 239 = 2 0 0 1 0 0");
        SCRIPT.run("one without an answer", FULL, "deliver 0; deliver 3 = 1; letters = 239;",
                "shows 238 = 2 0 0 1 0 0");
    }

    // Promise 13: false if there is none such.

    private static void dropOfNoneSuch() {
        SCRIPT.refused("empty", "", "drop 0 = 0; drop -1 = 0; drop 1 = 0; drop 239 = 0");
        SCRIPT.refused("beside the first and the last", ASKING, "drop -1 = 0; drop 4 = 0;"
                + "drop 5 = 0; drop 239 = 0; drop 240 = 0; drop min = 0; drop max = 0;"
                + "drop 1073741824 = 0");
        SCRIPT.refused("full", FULL, "drop -1 = 0; drop 240 = 0; drop 241 = 0");
    }

    private static void dropTheFirstAndTheLast() {
        SCRIPT.run("the first", ASKING, "drop 0 = 1; letters = 3; shows 0 = 1 0 0 1 1 0;",
                "shows 2 = 1 0 0 1 7 0; vote 0 0 0 = -1; state 0 0 = 1");
        SCRIPT.run("the last", ASKING, "drop 3 = 1; letters = 3; shows 0 = 1 0 0 1 0 0;",
                "shows 2 = 1 0 0 1 3 0; vote 7 0 0 = -1");
        SCRIPT.run("the only one", HOLDING, "order 0 0 4; drop 0 = 1; letters = 0; drop 0 = 0;",
                "orders 0 = 0; highest 0 = 0");
        SCRIPT.run("the last of 240", FULL, "drop 239 = 1; letters = 239; drop 239 = 0;",
                "shows 238 = 1 0 0 1 0 0");
        SCRIPT.run("the first of 240", FULL, "drop 0 = 1; letters = 239; shows 0 = 1 0 0 1 1 0;",
                "shows 238 = 1 0 0 1 0 0; shows 239 = -1 -1 -1 -1 -1 -1");
    }

    // Promise 14: false if there is none such, or there are 240.

    private static void copyOfNoneSuch() {
        SCRIPT.refused("empty", "", "copy 0 = 0; copy -1 = 0; copy 1 = 0; copy 239 = 0");
        SCRIPT.refused("beside the first and the last", ASKING, "copy -1 = 0; copy 4 = 0;"
                + "copy 5 = 0; copy 239 = 0; copy 240 = 0; copy min = 0; copy max = 0;"
                + "copy 1073741824 = 0");
    }

    private static void copyTo240() {
        SCRIPT.run("the first", ASKING, "copy 0 = 1; letters = 5; shows 4 = 1 0 0 1 0 0");
        SCRIPT.run("the last", ASKING, "copy 3 = 1; letters = 5; shows 4 = 1 0 0 1 7 0;",
                "copy 4 = 1; letters = 6; shows 5 = 1 0 0 1 7 0");
        SCRIPT.run("the 240th letter", ONE_PLACE, "copy 3 = 1; letters = 240;",
                "shows 239 = 1 0 0 1 7 0");
        SCRIPT.refused("the 241st", FULL, "copy 0 = 0; copy 3 = 0; copy 120 = 0; copy 239 = 0;"
                + "copy 240 = 0; copy -1 = 0");
        SCRIPT.run("a place again", FULL, "copy 1 = 0; drop 239; copy 1 = 1; copy 1 = 0;",
                "letters = 240; shows 239 = 1 0 0 1 1 0");
    }

    private static void copyOfEachKind() {
        SCRIPT.run("VOTE", ASKING, "4 x deliver 0; copy 3 = 1; shows 4 = 2 0 0 1 7 0");
        SCRIPT.run("NUMBER", WRITING, "copy 3 = 1; shows 4 = 3 0 0 1 7 1");
        SCRIPT.run("STORED", WRITING, "4 x deliver 0; copy 3 = 1; shows 4 = 4 0 0 1 7 0");
        SCRIPT.run("BACK", HOLDING, "release 0 0; copy 3 = 1; shows 4 = 5 0 0 1 7 0");
        SCRIPT.run("BROKEN", BROKEN, "copy 14 = 1; shows 16 = 6 0 0 1 14 1; copy 15 = 1;",
                "shows 17 = 7 0 0 1 -1 1; deliver 17; highest 0 = 1");
        SCRIPT.run("ORDER with its code", HOLDING, "order 0 0 -7; order 0 0 8; copy 0 = 1;",
                "shows 2 = 8 0 0 1 -1 1; deliver 2; done 0 0 1 = -7; deliver 0; deliver 0;",
                "done 0 1 1 = -7; done 0 2 1 = 8; orders 0 = 3");
    }

    // What is sent comes behind the others.

    private static void whatIsSentComesBehind() {
        SCRIPT.run("of several", "want 1 1; 16 x deliver 0; want 0 0; order 1 1 5; want 2 0;",
                "letters = 9; shows 3 = 1 0 0 1 7 0; shows 4 = 8 1 1 1 -1 1;",
                "shows 5 = 1 2 0 1 0 0; copy 0; shows 9 = 1 0 0 1 0 0; deliver 2;",
                "shows 9 = 2 0 0 1 3 0; giveUp 0 0; shows 10 = 5 0 0 1 0 0; letters = 14");
    }

    // If there are 240 it is lost: of what a delivered letter brings, so many as have a place.

    private static void answersOverAFullPost() {
        // Of the four NUMBERs that the last VOTE brings, one takes its place.
        SCRIPT.run("NUMBER", "want 0 0; 7 x deliver 0; 239 x copy 0; letters = 240;",
                "state 0 0 = 1; deliver 239 = 1; state 0 0 = 2; letters = 240;",
                "shows 238 = 2 0 0 1 7 0; shows 239 = 3 0 0 1 0 1");
        SCRIPT.run("three of four NUMBERs", "want 0 0; 7 x deliver 0; 237 x copy 0; letters = 238;",
                "deliver 0 = 1; state 0 0 = 2; letters = 240; shows 237 = 3 0 0 1 0 1;",
                "shows 238 = 3 0 0 1 1 1; shows 239 = 3 0 0 1 3 1");
        SCRIPT.run("STORED", WRITING, "236 x copy 0; letters = 240; deliver 0 = 1;",
                "letters = 240; shows 239 = 4 0 0 1 0 0; vote 0 0 2 = 1");
        SCRIPT.run("BACK for a late VOTE", "want 0 0; deliver 0; giveUp 0 0; 232 x copy 3;",
                "letters = 240; deliver 239 = 1; letters = 240; shows 239 = 5 0 0 1 0 0");
        SCRIPT.run("VOTE for who waits", HOLDING, "want 1 0; 4 x deliver 0; release 0 0;",
                "236 x copy 1; letters = 240; deliver 0 = 1; letters = 240;",
                "shows 239 = 2 1 0 1 0 1; vote 0 0 0 = 1");
    }

    private static void manyLettersOverAFullPost() {
        SCRIPT.run("ASK, one of four", ONE_PLACE, "want 1 0 = 1; letters = 240;",
                "shows 239 = 1 1 0 1 0 0; drop 239; giveUp 1 0 = 1; shows 239 = 5 1 0 1 0 0");
        SCRIPT.run("BACK to one whose ASK was lost", FULL, "want 1 0 = 1; 4 x drop 4;",
                "letters = 236; giveUp 1 0 = 1; letters = 240; shows 236 = 5 1 0 1 0 0;",
                "shows 239 = 5 1 0 1 7 0");
        SCRIPT.run("236 and four more", "want 0 0; 232 x copy 0; letters = 236; want 1 0 = 1;",
                "letters = 240; shows 239 = 1 1 0 1 7 0");
        SCRIPT.run("237 and three of four", "want 0 0; 233 x copy 0; letters = 237; want 1 0 = 1;",
                "letters = 240; shows 239 = 1 1 0 1 3 0");
    }

    private EdgePostTest() {
    }
}
