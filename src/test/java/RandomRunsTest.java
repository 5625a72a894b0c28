import java.util.ArrayList;
import java.util.List;
import java.util.Random;

/**
 * Random runs with fixed seeds: each call answers as PlainModel does, and at the end of a run all
 * that the object tells about itself is as there. Some seeds crowd the post, some an arbiter's row,
 * some a crane; a few calls have wrong arguments.
 */
public final class RandomRunsTest {
    private static final Check CHECK = new Check();
    private static final int RUNS_OF_A_KIND = 300;
    // So many questions at least fit on one object after the longest run.
    private static final int LONGEST = Tree.MOST_CALLS - 72;

    // How often, of 100: deliver, want, timeout, giveUp, release, break, order, stop or start,
    // drop, copy.
    private static final int[][] MANNERS = {
        {70, 12, 2, 2, 4, 2, 3, 1, 2, 2},
        {55, 15, 8, 5, 4, 2, 2, 4, 3, 2},
        {40, 22, 4, 16, 2, 2, 2, 1, 1, 10},
        {30, 20, 2, 20, 2, 1, 1, 2, 21, 1},
        {52, 6, 0, 0, 1, 1, 37, 0, 1, 2},
        {64, 8, 2, 1, 6, 9, 7, 1, 1, 1},
    };
    private static final int[] WRONG = {-1, 4, 8, 15, 240, Integer.MIN_VALUE, Integer.MAX_VALUE};

    private final String name;
    private final Random random;
    private final Tree tree = new Tree();
    private final PlainModel model = new PlainModel();
    private final List<Call> calls = new ArrayList<>();
    private final int clients;
    private final int cranes;
    private final boolean inOrder;
    private final int length;
    private static int fullest = 0;
    private static int longestRow = 0;
    private static int mostDone = 0;
    private static int highest = 0;

    public static void main(String[] args) {
        for (int manner = 0; manner < MANNERS.length; manner++) {
            for (int seed = 0; seed < RUNS_OF_A_KIND; seed++) {
                new RandomRunsTest(1000L * manner + seed).run(MANNERS[manner]);
            }
        }
        CHECK.due("the post was full once", fullest, 240);
        CHECK.due("an arbiter's row was full once", longestRow, 16);
        CHECK.due("a crane did over 64 orders", mostDone > 64, true);
        CHECK.due("many permits were given", highest > 6, true);
        CHECK.end();
    }

    private RandomRunsTest(long seed) {
        name = "seed " + seed;
        random = new Random(seed);
        clients = 1 + random.nextInt(8);
        cranes = 1 + random.nextInt(4) / (1 + random.nextInt(4));
        inOrder = random.nextBoolean();
        length = random.nextInt(3) == 0 ? LONGEST : 1 + random.nextInt(LONGEST);
    }

    private void run(int[] manner) {
        for (int i = 0; i < length; i++) {
            Call call = perhapsWrong(next(manner));
            calls.add(call);
            CHECK.due(name + ", call " + i + ", " + call, call.on(tree), call.on(model));
            fullest = Math.max(fullest, model.letters());
            highest = Math.max(highest, model.highestPermit());
        }
        compare(questions());
    }

    private Call next(int[] manner) {
        int pick = random.nextInt(100);
        int kind = 0;
        while (kind < manner.length - 1 && pick >= manner[kind]) {
            pick -= manner[kind];
            kind++;
        }
        int client = random.nextInt(clients);
        int crane = random.nextInt(cranes);
        int arbiter = random.nextInt(random.nextBoolean() ? 15 : 4);
        int place = inOrder && random.nextInt(8) != 0 ? 0
                : random.nextInt(Math.max(1, model.post.size()));
        int holder = holderOr(client, crane);
        int number = Math.max(model.permit(holder, crane), random.nextInt(3));
        return switch (kind) {
            case 0 -> Call.of("deliver", place);
            case 1 -> Call.of("want", client, crane);
            case 2 -> Call.of("timeout", client, crane, arbiter);
            case 3 -> Call.of("giveUp", client, crane);
            case 4 -> Call.of("release", holder, crane);
            case 5 -> Call.of("breakPermit", crane, number);
            case 6 -> Call.of("order", holder, crane, random.nextInt());
            case 7 -> Call.of(random.nextInt(3) == 0 ? "stop" : "start", arbiter);
            case 8 -> Call.of("drop", place);
            default -> Call.of("copy", place);
        };
    }

    private Call perhapsWrong(Call call) {
        int wrong = WRONG[random.nextInt(WRONG.length)];
        return switch (random.nextInt(100)) {
            case 0 -> new Call(call.name(), wrong, call.b(), call.c());
            case 1 -> new Call(call.name(), call.a(), wrong, call.c());
            case 2 -> new Call(call.name(), call.a(), call.b(), wrong);
            default -> call;
        };
    }

    /** Mostly one that holds, if there is one: else little would come of what is done to it. */
    private int holderOr(int someone, int crane) {
        if (random.nextInt(5) != 0) {
            for (int client = 0; client < 8; client++) {
                if (model.permit(client, crane) != 0) {
                    return client;
                }
            }
        }
        return someone;
    }

    private List<Call> questions() {
        List<Call> all = new ArrayList<>();
        all.add(Call.of("letters"));
        for (int i = 0; i <= model.letters(); i++) {
            for (int what = 0; what < 6; what++) {
                all.add(Call.of("letter", i, what));
            }
        }
        for (int crane = 0; crane < 4; crane++) {
            all.add(Call.of("orders", crane));
            all.add(Call.of("highest", crane));
            for (int i = 0; i <= model.orders(crane); i++) {
                all.add(Call.of("done", crane, i, 0));
                all.add(Call.of("done", crane, i, 1));
            }
            for (int client = 0; client < 8; client++) {
                all.add(Call.of("state", client, crane));
                all.add(Call.of("permit", client, crane));
                all.add(Call.of("quorumOf", client, crane));
            }
            for (int arbiter = 0; arbiter < 15; arbiter++) {
                for (int what = 0; what < 5; what++) {
                    all.add(Call.of("vote", arbiter, crane, what));
                }
            }
        }
        return all;
    }

    /** New objects take the run's calls again whenever one has been used for 512. */
    private void compare(List<Call> questions) {
        Tree asked = tree;
        for (Call question : questions) {
            if (asked.callsLeft() == 0) {
                asked = new Tree();
                Call.onAll(asked, calls);
            }
            CHECK.due(name + ", in the end, " + question, question.on(asked), question.on(model));
        }
        for (int crane = 0; crane < 4; crane++) {
            mostDone = Math.max(mostDone, model.orders(crane));
            int holding = 0;
            for (int client = 0; client < 8; client++) {
                holding += model.state(client, crane) == 3 ? 1 : 0;
            }
            CHECK.due(name + ": at most one holds what is not broken", holding <= 1, true);
            for (int arbiter = 0; arbiter < 15; arbiter++) {
                longestRow = Math.max(longestRow, model.vote(arbiter, crane, 3));
            }
        }
    }
}
