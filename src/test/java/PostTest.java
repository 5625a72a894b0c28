/** Promises 10 to 14: the post. */
public final class PostTest {
    private static final Check CHECK = new Check();
    private static final int NONE = PermitTree.NONE;

    public static void main(String[] args) {
        lettersCount();
        letterTells();
        letterRefuses();
        deliverFromAnyPlace();
        dropFromAnyPlace();
        copyGoesBehind();
        copyKeepsTheCode();
        placesRefuse();
        fullPostLosesWhatIsSent();
        fullPostRefusesCopies();
        askedEvenIfLost();
        placeOfTheDeliveredIsFree();
        CHECK.end();
    }

    private static void lettersCount() {
        PermitTree x = new PermitTree();
        CHECK.due("none", x.letters(), 0);
        x.want(0, 0);
        CHECK.due("four", x.letters(), 4);
        x.drop(0);
        CHECK.due("one less", x.letters(), 3);
        x.copy(0);
        CHECK.due("one more", x.letters(), 4);
        x.deliver(0);
        CHECK.due("one for another", x.letters(), 4);
    }

    /** Each kind; numbers in those that bear one, 0 in the others. */
    private static void letterTells() {
        PermitTree x = new PermitTree();
        Yard.hold(x, 3, 1);
        x.release(3, 1);
        Yard.deliverAll(x);
        x.want(2, 3);
        x.want(2, 1);
        CHECK.due("ASK", Yard.text(x, 7), "1 2 1 2 7 0");
        for (int i = 0; i < 4; i++) {
            x.drop(0);
        }
        Yard.deliverTimes(x, 0, 4);
        CHECK.due("VOTE", Yard.text(x, 3), "2 2 1 2 7 1");
        Yard.deliverTimes(x, 0, 4);
        CHECK.due("NUMBER", Yard.text(x, 3), "3 2 1 2 7 2");
        Yard.deliverTimes(x, 0, 4);
        CHECK.due("STORED", Yard.text(x, 3), "4 2 1 2 7 0");
        Yard.deliverAll(x);
        x.order(2, 1, 99);
        CHECK.due("ORDER", Yard.text(x, 0), "8 2 1 2 -1 2");
        x.breakPermit(1, 2);
        CHECK.due("BROKEN to an arbiter", Yard.text(x, 15), "6 2 1 2 14 2");
        CHECK.due("BROKEN to the crane", Yard.text(x, 16), "7 2 1 2 -1 2");
        x.release(2, 1);
        CHECK.due("BACK", Yard.text(x, 20), "5 2 1 2 7 0");
    }

    private static void letterRefuses() {
        PermitTree x = new PermitTree();
        CHECK.due("no letters", x.letter(0, 0), NONE);
        x.want(0, 0);
        for (int what = 0; what < 6; what++) {
            CHECK.due("place -1", x.letter(-1, what), NONE);
            CHECK.due("place 4", x.letter(4, what), NONE);
            CHECK.due("the greatest place", x.letter(Integer.MAX_VALUE, what), NONE);
        }
        CHECK.due("what -1", x.letter(1, -1), NONE);
        CHECK.due("what 6", x.letter(1, 6), NONE);
        CHECK.due("what 7", x.letter(0, 7), NONE);
        CHECK.due("what, least", x.letter(0, Integer.MIN_VALUE), NONE);
        Yard.deliverAll(x);
        x.order(0, 0, 1234);
        CHECK.due("the code is not told", x.letter(0, 6), NONE);
    }

    private static void deliverFromAnyPlace() {
        PermitTree x = new PermitTree();
        x.want(0, 0);
        CHECK.due("the third", x.deliver(2), true);
        CHECK.due("the others stay in order", Yard.texts(x),
                "1 0 0 1 0 0, 1 0 0 1 1 0, 1 0 0 1 7 0, 2 0 0 1 3 0");
        CHECK.due("the last", x.deliver(3), true);
        CHECK.due("its vote is there", x.quorumOf(0, 0), Yard.bits(3));
        CHECK.due("three left", x.letters(), 3);
    }

    private static void dropFromAnyPlace() {
        PermitTree x = new PermitTree();
        x.want(0, 0);
        CHECK.due("the second", x.drop(1), true);
        CHECK.due("the others stay in order", Yard.texts(x),
                "1 0 0 1 0 0, 1 0 0 1 3 0, 1 0 0 1 7 0");
        CHECK.due("the last", x.drop(2), true);
        CHECK.due("the first", x.drop(0), true);
        CHECK.due("one left", Yard.texts(x), "1 0 0 1 3 0");
        CHECK.due("nobody was asked", x.vote(1, 0, 0), NONE);
        CHECK.due("nor there", x.vote(0, 0, 0), NONE);
    }

    private static void copyGoesBehind() {
        PermitTree x = new PermitTree();
        x.want(0, 0);
        CHECK.due("the second", x.copy(1), true);
        CHECK.due("five", Yard.texts(x),
                "1 0 0 1 0 0, 1 0 0 1 1 0, 1 0 0 1 3 0, 1 0 0 1 7 0, 1 0 0 1 1 0");
        CHECK.due("the copy of it", x.copy(4), true);
        CHECK.due("six", Yard.text(x, 5), "1 0 0 1 1 0");
    }

    private static void copyKeepsTheCode() {
        PermitTree x = new PermitTree();
        Yard.hold(x, 0, 0);
        x.order(0, 0, 31);
        x.order(0, 0, 32);
        x.copy(0);
        CHECK.due("the copy", Yard.text(x, 2), "8 0 0 1 -1 1");
        Yard.deliverAll(x);
        CHECK.due("three are done", x.orders(0), 3);
        CHECK.due("the first", x.done(0, 0, 1), 31);
        CHECK.due("the second", x.done(0, 1, 1), 32);
        CHECK.due("the copy's code", x.done(0, 2, 1), 31);
    }

    private static void placesRefuse() {
        PermitTree x = new PermitTree();
        placesRefuse(x, 0);
        x.want(0, 0);
        placesRefuse(x, 4);
        CHECK.due("all are there", x.letters(), 4);
        Yard.fillPost(x, 1);
        placesRefuse(x, 240);
        CHECK.due("all 240", x.letters(), 240);
    }

    private static void placesRefuse(PermitTree x, int count) {
        int[] wrong = {-1, count, count + 1, 1000, Integer.MAX_VALUE, Integer.MIN_VALUE};
        for (int place : wrong) {
            CHECK.due("deliver of none", x.deliver(place), false);
            CHECK.due("drop of none", x.drop(place), false);
            CHECK.due("copy of none", x.copy(place), false);
        }
    }

    private static void fullPostLosesWhatIsSent() {
        PermitTree x = new PermitTree();
        Yard.hold(x, 0, 0);
        Yard.fillPost(x, 1);
        CHECK.due("full", x.letters(), 240);
        for (int i = 0; i < 3; i++) {
            x.drop(0);
        }
        CHECK.due("three places", x.letters(), 237);
        CHECK.due("16 are sent", x.breakPermit(0, 1), 0);
        CHECK.due("three stay", x.letters(), 240);
        CHECK.due("the first of them", Yard.text(x, 237), "6 0 0 1 0 1");
        CHECK.due("the third of them", Yard.text(x, 239), "6 0 0 1 2 1");
        CHECK.due("but it is broken", x.state(0, 0), 4);
        CHECK.due("a run begins too", x.want(5, 3), 1 + runsOf(5));
        CHECK.due("with no letters", x.letters(), 240);
        CHECK.due("asking", x.state(5, 3), 1);
        CHECK.due("and ends", x.giveUp(5, 3), true);
        CHECK.due("with none too", x.letters(), 240);
    }

    /** fillPost's 60 calls are wants and give-ups in rounds of 8: so many runs of a client. */
    private static int runsOf(int client) {
        int runs = 0;
        for (int call = 0; call < 60; call++) {
            if (call % 8 == client && call / 8 % 2 == 0) {
                runs++;
            }
        }
        return runs;
    }

    private static void fullPostRefusesCopies() {
        PermitTree x = new PermitTree();
        x.want(0, 0);
        for (int i = 4; i < 240; i++) {
            CHECK.due("copy", x.copy(i - 4), true);
        }
        CHECK.due("full", x.letters(), 240);
        CHECK.due("no copy of the first", x.copy(0), false);
        CHECK.due("none of the last", x.copy(239), false);
        CHECK.due("still 240", x.letters(), 240);
        CHECK.due("the last", Yard.text(x, 239), "1 0 0 1 7 0");
        x.drop(0);
        CHECK.due("a place again", x.copy(0), true);
        CHECK.due("filled", Yard.text(x, 239), "1 0 0 1 1 0");
        CHECK.due("the last comes", x.deliver(239), true);
        CHECK.due("in its place the vote", Yard.text(x, 239), "2 0 0 1 1 0");
    }

    private static void askedEvenIfLost() {
        PermitTree x = new PermitTree();
        Yard.fillPost(x, 1);
        x.drop(0);
        x.drop(0);
        x.want(0, 0);
        CHECK.due("two ASKs have a place", Yard.text(x, 239).startsWith("1 0 0"), true);
        Yard.dropAll(x);
        x.timeout(0, 0, 7);
        CHECK.due("3 is not asked again", Yard.arbitersOf(x, Yard.ASK), Yard.bits(8));
        Yard.dropAll(x);
        x.giveUp(0, 0);
        CHECK.due("BACK goes to it too", Yard.arbitersOf(x, Yard.BACK), Yard.bits(0, 1, 3, 7, 8));
    }

    private static void placeOfTheDeliveredIsFree() {
        PermitTree x = new PermitTree();
        Yard.fillPost(x, 1);
        CHECK.due("an ASK is first", x.letter(0, 0), Yard.ASK);
        CHECK.due("it comes", x.deliver(0), true);
        CHECK.due("240 again", x.letters(), 240);
        CHECK.due("its VOTE is the last", x.letter(239, 0), Yard.VOTE);
    }

    private PostTest() {
    }
}
