import java.util.Random;

/**
 * Any calls with any arguments, right ones and wrong ones: none throws, and the same calls have the
 * same answers on another object. Some objects are used far beyond their 512 calls: what they
 * answer then is free, but not that they answer.
 */
public final class AnyCallsTest {
    private static final Check CHECK = new Check();
    private static final String[] NAMES = {"want", "timeout", "giveUp", "release", "breakPermit",
        "order", "stop", "start", "letters", "letter", "deliver", "drop", "copy", "state", "permit",
        "quorumOf", "vote", "orders", "done", "highest"};
    private static final int[] EDGES = {Integer.MIN_VALUE, Integer.MIN_VALUE + 1, -1_000_000_007,
        -65_536, -241, -240, -64, -33, -32, -31, -16, -15, -8, -4, -1, 15, 16, 17, 31, 32, 33, 63,
        64, 65, 239, 240, 241, 1679, 1680, 65_536, 1 << 28, 1 << 29, 1 << 30,
        Integer.MAX_VALUE - 1, Integer.MAX_VALUE};

    public static void main(String[] args) {
        edgesOnEveryPlace();
        for (int seed = 0; seed < 400; seed++) {
            anyCalls(seed, Tree.MOST_CALLS, 0.1);
        }
        for (int seed = 0; seed < 10; seed++) {
            anyCalls(1000 + seed, 100_000, 0.02);
        }
        CHECK.end();
    }

    /** From each scene on, each call with each edge in each place. */
    private static void edgesOnEveryPlace() {
        for (Scenes.Scene scene : Scenes.all()) {
            Tree one = Tree.usedLong();
            for (Call call : scene.calls()) {
                answer(scene.name(), one, call);
            }
            for (String name : NAMES) {
                for (int edge : EDGES) {
                    answer(scene.name(), one, new Call(name, edge, 0, 0));
                    answer(scene.name(), one, new Call(name, 0, edge, 0));
                    answer(scene.name(), one, new Call(name, 0, 0, edge));
                    answer(scene.name(), one, new Call(name, edge, edge, edge));
                }
            }
        }
    }

    private static void anyCalls(long seed, int count, double wrong) {
        Random random = new Random(seed);
        Tree one = Tree.usedLong();
        Tree other = Tree.usedLong();
        for (int i = 0; i < count; i++) {
            // Half of all calls deliver, or little would ever come about.
            String name = random.nextBoolean() ? "deliver" : NAMES[random.nextInt(NAMES.length)];
            Call call = new Call(name, argument(random, wrong), argument(random, wrong),
                    argument(random, wrong));
            String title = "seed " + seed + ", call " + i;
            int due = answer(title, one, call);
            CHECK.due(title + ", " + call, answer(title, other, call), due);
        }
    }

    private static int argument(Random random, double wrong) {
        if (random.nextDouble() < wrong) {
            return random.nextBoolean() ? EDGES[random.nextInt(EDGES.length)] : random.nextInt();
        }
        return random.nextInt(1 + random.nextInt(9));
    }

    private static int answer(String title, Tree tree, Call call) {
        try {
            return call.on(tree);
        } catch (RuntimeException | Error thrown) {
            CHECK.due(title + ", " + call, thrown.toString(), "an answer");
            return 0;
        }
    }

    private AnyCallsTest() {
    }
}
