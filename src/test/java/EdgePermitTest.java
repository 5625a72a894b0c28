/** The boundary cases of promises 6, 7 and 19 to 21, a test for each. */
public final class EdgePermitTest {
    private static final Check CHECK = new Check();
    private static final Script SCRIPT = new Script(CHECK);

    private static final String HOLDING = Scenes.HOLDING;
    private static final String BROKEN = Scenes.BROKEN;
    /** Client 0 holds permit 1, which is broken; client 1 holds permit 2; no letters. */
    private static final String BOTH = BROKEN + "16 x deliver 0; want 1 0; 16 x deliver 0;";
    /** Client 1 holds permit 1 of crane 1, and the post is full of letters about crane 0. */
    private static final String FULL = "want 1 1; 16 x deliver 0;" + Scenes.FULL;

    public static void main(String[] args) {
        breakOfNoCrane();
        breakOfWhatNobodyHolds();
        breakOfWhatIsBroken();
        breakOfTheRightOne();
        breakOverAFullPost();
        orderOfNoneSuch();
        orderOfOneThatIsNotHolding();
        orderOfWhatIsBroken();
        orderOfAnyCode();
        orderOverAFullPost();
        ordersOfNoneSuch();
        ordersCountAllThatAreDone();
        doneOfNone();
        doneOfTheLatestSixtyFour();
        doneOfOtherThings();
        highestOfNoneSuch();
        highestAtFirst();
        CHECK.end();
    }

    // Promise 6: NONE, and nothing happens, if nobody holds that, or it is broken.

    private static void breakOfNoCrane() {
        SCRIPT.run("the first and the last", "want 0 0; want 7 3; 32 x deliver 0;",
                "breakPermit 0 1 = 0; breakPermit 3 1 = 7; letters = 32; shows 31 = 7 7 3 1 -1 1");
        SCRIPT.refused("cranes", "want 0 0; want 7 3; 32 x deliver 0;", "breakPermit -1 1 = -1;"
                + "breakPermit 4 1 = -1; breakPermit -4 1 = -1; breakPermit 8 1 = -1;"
                + "breakPermit min 1 = -1; breakPermit max 1 = -1; breakPermit 1073741824 1 = -1");
    }

    private static void breakOfWhatNobodyHolds() {
        SCRIPT.refused("a new object", "", "breakPermit 0 0 = -1; breakPermit 0 1 = -1;"
                + "breakPermit 3 0 = -1; breakPermit 0 -1 = -1");
        SCRIPT.refused("who asks holds none", Scenes.ASKING, "breakPermit 0 0 = -1;"
                + "breakPermit 0 1 = -1");
        SCRIPT.refused("who writes holds none", Scenes.WRITING + "7 x deliver 0;",
                "breakPermit 0 0 = -1; breakPermit 0 1 = -1");
        SCRIPT.refused("one less, one more", HOLDING, "breakPermit 0 0 = -1; breakPermit 0 2 = -1;"
                + "breakPermit 0 -1 = -1; breakPermit 0 min = -1; breakPermit 0 max = -1");
        SCRIPT.refused("another crane", HOLDING, "breakPermit 1 1 = -1; breakPermit 3 1 = -1");
        SCRIPT.refused("released", HOLDING + "release 0 0; 4 x deliver 0;", "breakPermit 0 1 = -1");
        SCRIPT.refused("released, the next is held",
                HOLDING + "release 0 0; 4 x deliver 0; want 0 0; 16 x deliver 0;",
                "breakPermit 0 1 = -1; breakPermit 0 3 = -1");
    }

    private static void breakOfWhatIsBroken() {
        SCRIPT.refused("at once", BROKEN, "breakPermit 0 1 = -1");
        SCRIPT.refused("when all know", BROKEN + "16 x deliver 0;", "breakPermit 0 1 = -1");
        SCRIPT.refused("while another holds the next", BOTH, "breakPermit 0 1 = -1");
        SCRIPT.refused("both are broken", BOTH + "breakPermit 0 2;",
                "breakPermit 0 1 = -1; breakPermit 0 2 = -1; breakPermit 0 3 = -1");
    }

    private static void breakOfTheRightOne() {
        SCRIPT.run("the one that holds it", BOTH, "permit 0 0 = 1; permit 1 0 = 2;",
                "breakPermit 0 2 = 1; state 1 0 = 4; state 0 0 = 4; letters = 16;",
                "shows 0 = 6 1 0 1 0 2; shows 15 = 7 1 0 1 -1 2");
        SCRIPT.run("only at that crane", "want 0 0; want 0 1; 32 x deliver 0;",
                "breakPermit 1 1 = 0; state 0 1 = 4; state 0 0 = 3; shows 15 = 7 0 1 2 -1 1");
    }

    private static void breakOverAFullPost() {
        SCRIPT.run("no place", FULL, "breakPermit 1 1 = 1; letters = 240; state 1 1 = 4;",
                "shows 239 = 1 0 0 1 0 0; breakPermit 1 1 = -1");
        SCRIPT.run("one place", FULL, "drop 0; breakPermit 1 1 = 1; letters = 240;",
                "shows 239 = 6 1 1 1 0 1");
        SCRIPT.run("fifteen places", FULL, "15 x drop 0; breakPermit 1 1 = 1; letters = 240;",
                "shows 225 = 6 1 1 1 0 1; shows 239 = 6 1 1 1 14 1");
        SCRIPT.run("sixteen places", FULL, "16 x drop 0; breakPermit 1 1 = 1; letters = 240;",
                "shows 224 = 6 1 1 1 0 1; shows 239 = 7 1 1 1 -1 1");
    }

    // Promise 7: false if there is none such, or it is not holding.

    private static void orderOfNoneSuch() {
        String both = "want 0 0; want 7 3; 32 x deliver 0;";
        SCRIPT.run("the first and the last", both, "order 0 0 1 = 1; order 7 3 1 = 1; letters = 2;",
                "shows 1 = 8 7 3 1 -1 1");
        SCRIPT.refused("clients", both, "order -1 0 1 = 0; order 8 3 1 = 0; order -1 4 1 = 0;"
                + "order 1 -4 1 = 0; order min 0 1 = 0; order max 3 1 = 0;"
                + "order 1073741824 0 1 = 0");
        SCRIPT.refused("cranes", both, "order 0 -1 1 = 0; order 7 4 1 = 0; order 8 -1 1 = 0;"
                + "order 0 31 1 = 0; order 0 min 1 = 0; order 7 max 1 = 0");
    }

    private static void orderOfOneThatIsNotHolding() {
        SCRIPT.refused("at no crane", "", "order 0 0 1 = 0; order 7 3 1 = 0");
        SCRIPT.refused("at another crane", HOLDING, "order 0 1 1 = 0; order 1 0 1 = 0");
        SCRIPT.refused("asking", Scenes.ASKING, "order 0 0 1 = 0");
        SCRIPT.refused("writing", Scenes.WRITING, "order 0 0 1 = 0");
        SCRIPT.refused("all stored but one", Scenes.WRITING + "7 x deliver 0;", "order 0 0 1 = 0");
        SCRIPT.refused("released", HOLDING + "release 0 0;", "order 0 0 1 = 0");
        SCRIPT.refused("a broken one released", BROKEN + "release 0 0;", "order 0 0 1 = 0");
        SCRIPT.run("holding", HOLDING, "order 0 0 1 = 1; letters = 1; shows 0 = 8 0 0 1 -1 1");
    }

    // Also if that is broken, which it does not know.

    private static void orderOfWhatIsBroken() {
        SCRIPT.run("at once", BROKEN, "order 0 0 1 = 1; letters = 17; shows 16 = 8 0 0 1 -1 1");
        SCRIPT.run("when all know", BROKEN, "16 x deliver 0; order 0 0 1 = 1; letters = 1;",
                "shows 0 = 8 0 0 1 -1 1; deliver 0 = 1; orders 0 = 0");
        SCRIPT.run("while another holds the next", BOTH, "order 0 0 1 = 1; order 1 0 2 = 1;",
                "shows 0 = 8 0 0 1 -1 1; shows 1 = 8 1 0 1 -1 2");
    }

    private static void orderOfAnyCode() {
        SCRIPT.run("codes", HOLDING, "order 0 0 0 = 1; order 0 0 -1 = 1; order 0 0 min = 1;",
                "order 0 0 max = 1; 4 x deliver 0; orders 0 = 4; done 0 0 1 = 0; done 0 1 1 = -1;",
                "done 0 2 1 = min; done 0 3 1 = max");
    }

    private static void orderOverAFullPost() {
        SCRIPT.run("no place", FULL, "order 1 1 5 = 1; letters = 240; shows 239 = 1 0 0 1 0 0;",
                "deliver 239 = 1; orders 1 = 0");
        SCRIPT.run("one place", FULL, "drop 0; order 1 1 5 = 1; letters = 240;",
                "shows 239 = 8 1 1 1 -1 1; order 1 1 6 = 1; deliver 239 = 1; orders 1 = 1;",
                "done 1 0 1 = 5; letters = 239");
    }

    // Promise 19: NONE if there is none such.

    private static void ordersOfNoneSuch() {
        String all = "want 0 0; want 1 3; 32 x deliver 0; order 0 0 1; order 1 3 1; 2 x deliver 0;";
        SCRIPT.run("the first and the last", all, "orders 0 = 1; orders 1 = 0; orders 2 = 0;",
                "orders 3 = 1");
        SCRIPT.refused("cranes", all, "orders -1 = -1; orders 4 = -1; orders min = -1;"
                + "orders max = -1");
    }

    private static void ordersCountAllThatAreDone() {
        SCRIPT.run("none at first", "orders 0 = 0; orders 3 = 0");
        SCRIPT.run("not those on their way", HOLDING, "order 0 0 1; orders 0 = 0; deliver 0;",
                "orders 0 = 1");
        SCRIPT.run("not those that are lost", HOLDING, "order 0 0 1; drop 0; orders 0 = 0");
        SCRIPT.run("doubled ones twice", HOLDING, "order 0 0 1; copy 0; 2 x deliver 0;",
                "orders 0 = 2");
        SCRIPT.run("beyond 64", HOLDING, "order 0 0 1; 99 x copy 0; 64 x deliver 0; orders 0 = 64;",
                "deliver 0; orders 0 = 65; 35 x deliver 0; orders 0 = 100; letters = 0");
    }

    // Promise 20: NONE if there is none, or it is not one of the latest 64.

    private static void doneOfNone() {
        SCRIPT.refused("a new object", "", "done 0 0 0 = -1; done 0 0 1 = -1; done 0 -1 0 = -1;"
                + "done 0 63 0 = -1; done 0 64 0 = -1; done 3 0 0 = -1");
        SCRIPT.refused("the first and the one behind the last",
                HOLDING + "order 0 0 5; order 0 0 6; 2 x deliver 0;",
                "done 0 0 1 = 5; done 0 1 1 = 6; done 0 2 0 = -1; done 0 2 1 = -1;"
                + "done 0 -1 0 = -1; done 0 -1 1 = -1; done 0 min 0 = -1; done 0 max 0 = -1;"
                + "done 0 64 1 = -1; done 0 65 1 = -1; done 0 -63 1 = -1; done 0 -64 1 = -1");
    }

    private static void doneOfTheLatestSixtyFour() {
        SCRIPT.run("63", HOLDING, orders(63), "orders 0 = 63; done 0 0 1 = 1000;",
                "done 0 62 1 = 1062; done 0 63 1 = -1");
        SCRIPT.run("64", HOLDING, orders(64), "orders 0 = 64; done 0 0 0 = 1; done 0 0 1 = 1000;",
                "done 0 63 1 = 1063; done 0 64 1 = -1; done 0 64 0 = -1; done 0 -1 1 = -1");
        SCRIPT.run("65", HOLDING, orders(65), "orders 0 = 65; done 0 0 0 = -1; done 0 0 1 = -1;",
                "done 0 1 0 = 1; done 0 1 1 = 1001; done 0 64 1 = 1064; done 0 65 1 = -1");
        SCRIPT.run("128", HOLDING, orders(128), "orders 0 = 128; done 0 63 1 = -1;",
                "done 0 64 1 = 1064; done 0 127 1 = 1127; done 0 128 1 = -1");
        SCRIPT.run("129", HOLDING, orders(129), "orders 0 = 129; done 0 64 1 = -1;",
                "done 0 65 1 = 1065; done 0 128 1 = 1128; done 0 129 1 = -1; done 0 0 1 = -1");
        StringBuilder all = new StringBuilder();
        for (int i = 0; i < 100; i++) {
            all.append("done 0 ").append(i).append(" 1 = ").append(i < 36 ? -1 : 1000 + i);
            all.append("; ");
        }
        SCRIPT.run("each of 100", HOLDING, orders(100), all.toString());
    }

    /** So many orders come, with codes from 1000 on. */
    private static String orders(int count) {
        StringBuilder text = new StringBuilder();
        for (int i = 0; i < count; i++) {
            text.append("order 0 0 ").append(1000 + i).append("; deliver 0;");
        }
        return text.toString();
    }

    // What 0: the number, 1: the code.

    private static void doneOfOtherThings() {
        SCRIPT.refused("what", HOLDING + "order 0 0 9; deliver 0;", "done 0 0 0 = 1;"
                + "done 0 0 1 = 9; done 0 0 -1 = -1; done 0 0 2 = -1; done 0 0 min = -1;"
                + "done 0 0 max = -1");
        SCRIPT.refused("cranes", "want 0 0; want 1 3; 32 x deliver 0; order 0 0 8; order 1 3 9;"
                + "2 x deliver 0;", "done 0 0 1 = 8; done 3 0 1 = 9; done 1 0 1 = -1;"
                + "done -1 0 0 = -1; done 4 0 0 = -1; done -1 0 1 = -1; done 4 0 1 = -1;"
                + "done min 0 0 = -1; done max 0 0 = -1");
    }

    // Promise 21: NONE if there is none such.

    private static void highestOfNoneSuch() {
        String all = "want 0 0; want 1 3; 32 x deliver 0; order 0 0 1; order 1 3 1; 2 x deliver 0;";
        SCRIPT.run("the first and the last", all, "highest 0 = 1; highest 1 = 0; highest 2 = 0;",
                "highest 3 = 1");
        SCRIPT.refused("cranes", all, "highest -1 = -1; highest 4 = -1; highest min = -1;"
                + "highest max = -1");
    }

    private static void highestAtFirst() {
        SCRIPT.run("0 at first", "highest 0 = 0; highest 3 = 0");
        SCRIPT.run("a permit alone does not count", HOLDING, "highest 0 = 0; order 0 0 1;",
                "highest 0 = 0; deliver 0; highest 0 = 1");
    }

    private EdgePermitTest() {
    }
}
