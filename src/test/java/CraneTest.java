/** Promises 19 to 21: what cranes do and were told. */
public final class CraneTest {
    private static final Check CHECK = new Check();
    private static final int NONE = PermitTree.NONE;

    public static void main(String[] args) {
        ordersAreDoneInTurn();
        lowerNumberIsNotDone();
        brokenNumberIsNotDone();
        brokenNumberIsHighest();
        brokenLowerNumberKeepsTheHighest();
        brokenNumbersOutOfOrder();
        latestSixtyFour();
        refuses();
        CHECK.end();
    }

    private static void ordersAreDoneInTurn() {
        PermitTree x = new PermitTree();
        Yard.hold(x, 0, 2);
        x.order(0, 2, 5);
        x.order(0, 2, Integer.MIN_VALUE);
        x.order(0, 2, -1);
        Yard.deliverAll(x);
        CHECK.due("three", x.orders(2), 3);
        CHECK.due("the first", x.done(2, 0, 1), 5);
        CHECK.due("the second", x.done(2, 1, 1), Integer.MIN_VALUE);
        CHECK.due("the third", x.done(2, 2, 1), -1);
        CHECK.due("the number of each", x.done(2, 2, 0), 1);
        CHECK.due("no fourth", x.done(2, 3, 0), NONE);
        CHECK.due("the highest", x.highest(2), 1);
        CHECK.due("another crane has none", x.orders(1), 0);
        CHECK.due("nor a number", x.highest(1), 0);
    }

    private static void lowerNumberIsNotDone() {
        PermitTree x = new PermitTree();
        Yard.hold(x, 0, 0);
        x.order(0, 0, 10);
        x.release(0, 0);
        Yard.deliverTimes(x, 1, 4);
        CHECK.due("the order is late", Yard.texts(x), "8 0 0 1 -1 1");
        x.want(1, 0);
        Yard.deliverTimes(x, 1, 16);
        CHECK.due("the next holds", x.permit(1, 0), 2);
        x.order(1, 0, 20);
        x.copy(1);
        x.deliver(1);
        CHECK.due("done", x.orders(0), 1);
        CHECK.due("the highest", x.highest(0), 2);
        x.deliver(0);
        CHECK.due("the late one is not done", x.orders(0), 1);
        CHECK.due("the highest stays", x.highest(0), 2);
        x.deliver(0);
        CHECK.due("the same number is done again", x.orders(0), 2);
        CHECK.due("its code", x.done(0, 1, 1), 20);
    }

    private static void brokenNumberIsNotDone() {
        PermitTree x = new PermitTree();
        Yard.hold(x, 0, 0);
        x.order(0, 0, 1);
        x.deliver(0);
        x.breakPermit(0, 1);
        x.deliver(15);
        CHECK.due("told as broken", x.highest(0), 1);
        x.order(0, 0, 2);
        x.deliver(15);
        CHECK.due("not below, but broken", x.orders(0), 1);
        Yard.deliverAll(x);
        Yard.hold(x, 1, 0);
        x.order(1, 0, 3);
        Yard.deliverAll(x);
        CHECK.due("a higher one is done", x.orders(0), 2);
        CHECK.due("its number", x.done(0, 1, 0), 2);
    }

    private static void brokenNumberIsHighest() {
        PermitTree x = new PermitTree();
        Yard.hold(x, 0, 0);
        x.breakPermit(0, 1);
        CHECK.due("not told yet", x.highest(0), 0);
        x.deliver(15);
        CHECK.due("told", x.highest(0), 1);
        CHECK.due("nothing was done", x.orders(0), 0);
        CHECK.due("other cranes were not told", x.highest(1), 0);
    }

    /** 2 is told as broken before 1: an order with 2 is not done after both. */
    private static void brokenNumbersOutOfOrder() {
        PermitTree x = new PermitTree();
        Yard.hold(x, 0, 0);
        x.breakPermit(0, 1);
        Yard.deliverTimes(x, 0, 15);
        x.want(1, 0);
        Yard.deliverTimes(x, 1, 16);
        x.breakPermit(0, 2);
        Yard.deliverTimes(x, 1, 15);
        CHECK.due("both are on their way", Yard.texts(x), "7 0 0 1 -1 1, 7 1 0 1 -1 2");
        x.deliver(1);
        x.deliver(0);
        CHECK.due("the highest", x.highest(0), 2);
        x.order(1, 0, 5);
        x.deliver(0);
        CHECK.due("2 is broken still", x.orders(0), 0);
    }

    private static void brokenLowerNumberKeepsTheHighest() {
        PermitTree x = new PermitTree();
        Yard.hold(x, 0, 0);
        x.breakPermit(0, 1);
        Yard.deliverTimes(x, 0, 15);
        CHECK.due("the crane's letter is late", Yard.texts(x), "7 0 0 1 -1 1");
        x.want(1, 0);
        Yard.deliverTimes(x, 1, 16);
        CHECK.due("the next holds", x.permit(1, 0), 2);
        x.order(1, 0, 7);
        x.deliver(1);
        CHECK.due("done", x.highest(0), 2);
        x.deliver(0);
        CHECK.due("a lower one was told as broken", x.highest(0), 2);
        x.order(1, 0, 8);
        x.deliver(0);
        CHECK.due("the next is done still", x.orders(0), 2);
        x.breakPermit(0, 2);
        x.deliver(15);
        x.order(1, 0, 9);
        x.deliver(15);
        CHECK.due("not when that is broken", x.orders(0), 2);
        CHECK.due("orders are kept", x.done(0, 0, 1), 7);
    }

    private static void latestSixtyFour() {
        PermitTree x = new PermitTree();
        Yard.hold(x, 0, 0);
        for (int i = 0; i < 64; i++) {
            x.order(0, 0, 100 + i);
            x.deliver(0);
        }
        CHECK.due("the first of 64", x.done(0, 0, 1), 100);
        CHECK.due("the last of 64", x.done(0, 63, 1), 163);
        x.order(0, 0, 164);
        x.deliver(0);
        CHECK.due("65", x.orders(0), 65);
        CHECK.due("the first is gone", x.done(0, 0, 0), NONE);
        CHECK.due("its code too", x.done(0, 0, 1), NONE);
        CHECK.due("the second", x.done(0, 1, 1), 101);
        CHECK.due("the last", x.done(0, 64, 1), 164);
        CHECK.due("its number", x.done(0, 64, 0), 1);
        CHECK.due("not one more", x.done(0, 65, 1), NONE);
        for (int i = 65; i < 140; i++) {
            x.order(0, 0, 100 + i);
            x.deliver(0);
        }
        CHECK.due("140", x.orders(0), 140);
        CHECK.due("before the latest", x.done(0, 75, 1), NONE);
        CHECK.due("the first of the latest", x.done(0, 76, 1), 176);
        CHECK.due("the last of all", x.done(0, 139, 1), 239);
    }

    private static void refuses() {
        PermitTree x = new PermitTree();
        Yard.hold(x, 0, 0);
        x.order(0, 0, 1);
        x.deliver(0);
        int[] wrong = {-1, 4, 5, Integer.MAX_VALUE, Integer.MIN_VALUE};
        for (int crane : wrong) {
            CHECK.due("orders of none such", x.orders(crane), NONE);
            CHECK.due("highest of none such", x.highest(crane), NONE);
            CHECK.due("done of none such", x.done(crane, 0, 0), NONE);
        }
        CHECK.due("order -1", x.done(0, -1, 0), NONE);
        CHECK.due("order 1", x.done(0, 1, 0), NONE);
        CHECK.due("least order", x.done(0, Integer.MIN_VALUE, 0), NONE);
        CHECK.due("greatest order", x.done(0, Integer.MAX_VALUE, 0), NONE);
        CHECK.due("what -1", x.done(0, 0, -1), NONE);
        CHECK.due("what 2", x.done(0, 0, 2), NONE);
        CHECK.due("the last crane", x.orders(3), 0);
        CHECK.due("its highest", x.highest(3), 0);
    }

    private CraneTest() {
    }
}
