import java.util.Random;

/**
 * What the document says first: each permit has a higher number than those before, and a crane
 * obeys no lower one. Runs with fixed seeds, in which letters are lost, doubled and late, arbiters
 * go down and permits are broken. PlainModel goes along only to tell what is on its way, for
 * questions too are calls, and an object has 512.
 */
public final class NumbersTest {
    private static final Check CHECK = new Check();
    private static final int RUNS = 4000;
    private static final int CRANES = 2;
    // No step makes more calls of the object than these.
    private static final int CALLS_OF_A_STEP = 3;

    private static int mostPermits = 0;
    private static int overtaken = 0;
    private static int refused = 0;

    private final String name;
    private final Random random;
    private final Tree tree = new Tree();
    private final PlainModel model = new PlainModel();
    private final int clients;
    private final int cranes;
    private final int trouble;
    private final boolean inOrder;
    // For each crane, as seen so far.
    private final int[] lastHolder = new int[CRANES];
    private final int[] lastPermit = new int[CRANES];
    private final int[] highestDone = new int[CRANES];
    private final int[] highestBroken = new int[CRANES];

    public static void main(String[] args) {
        for (int seed = 0; seed < RUNS; seed++) {
            new NumbersTest(seed).run();
        }
        CHECK.due("many permits in one run", mostPermits >= 12, true);
        CHECK.due("often while a broken one is held", overtaken >= 1000, true);
        CHECK.due("often an order is too low", refused >= 1000, true);
        CHECK.end();
    }

    private NumbersTest(long seed) {
        name = "seed " + seed;
        random = new Random(seed);
        clients = 2 + random.nextInt(6);
        cranes = 1 + random.nextInt(CRANES);
        trouble = random.nextInt(20);
        inOrder = random.nextInt(3) != 0;
    }

    private void run() {
        while (tree.callsLeft() >= CALLS_OF_A_STEP) {
            int crane = random.nextInt(cranes);
            if (random.nextInt(100) < trouble) {
                both(trouble(crane));
            } else if (model.letters() > 0 && random.nextInt(100) < 85) {
                deliver(place());
            } else {
                both(useOfPermits(crane));
            }
        }
    }

    private int both(Call call) {
        int answer = call.on(tree);
        CHECK.due(name + ": " + call, answer, call.on(model));
        return answer;
    }

    private int place() {
        return inOrder ? 0 : random.nextInt(Math.max(1, model.letters()));
    }

    private Call trouble(int crane) {
        int client = random.nextInt(clients);
        int arbiter = random.nextInt(random.nextBoolean() ? 15 : 4);
        return switch (random.nextInt(6)) {
            case 0 -> Call.of("drop", place());
            case 1 -> Call.of("copy", place());
            case 2 -> Call.of("stop", arbiter);
            case 3 -> Call.of("start", arbiter);
            case 4 -> Call.of("giveUp", client, crane);
            default -> Call.of("timeout", client, crane, arbiter);
        };
    }

    private Call useOfPermits(int crane) {
        int client = random.nextInt(clients);
        return switch (random.nextInt(6)) {
            case 0 -> Call.of("order", client, crane, 1);
            case 1 -> Call.of("order", lastHolder[crane], crane, 1);
            case 2 -> Call.of("release", lastHolder[crane], crane);
            case 3 -> Call.of("breakPermit", crane, lastPermit[crane]);
            default -> Call.of("want", client, crane);
        };
    }

    private void deliver(int i) {
        int kind = model.letter(i, 0);
        int client = model.letter(i, 1);
        int crane = model.letter(i, 2);
        int number = model.letter(i, 5);
        boolean writing = model.state(client, crane) == 2;
        int doneBefore = model.orders(crane);
        both(Call.of("deliver", i));
        if (kind == Yard.STORED && writing) {
            seePermit(client, crane);
        } else if (kind == Yard.ORDER) {
            seeOrder(crane, number, doneBefore);
        } else if (kind == Yard.BROKEN_TO_CRANE) {
            highestBroken[crane] = Math.max(highestBroken[crane], number);
        }
    }

    private void seePermit(int client, int crane) {
        int number = both(Call.of("permit", client, crane));
        if (number == 0) {
            return;
        }
        CHECK.due(name + ": permit " + number + " is higher than " + lastPermit[crane],
                number > lastPermit[crane], true);
        overtaken += model.state(lastHolder[crane], crane) == 4 ? 1 : 0;
        lastHolder[crane] = client;
        lastPermit[crane] = number;
        mostPermits = Math.max(mostPermits, number);
    }

    private void seeOrder(int crane, int number, int doneBefore) {
        boolean low = number < highestDone[crane] || number <= highestBroken[crane];
        int done = both(Call.of("orders", crane));
        CHECK.due(name + ": an order with " + number + " is done", done > doneBefore, !low);
        refused += low ? 1 : 0;
        highestDone[crane] = Math.max(highestDone[crane], low ? 0 : number);
    }
}
