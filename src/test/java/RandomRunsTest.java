import java.util.List;
import java.util.Random;

/**
 * Long runs of calls with fixed seeds, each held against PlainModel after every call: all that the
 * object tells about itself. Some seeds crowd the post, some a single arbiter's row, some a crane.
 */
public final class RandomRunsTest {
    private static final Check CHECK = new Check();
    private static final int CALLS = 512;
    private static final int RUNS_OF_A_KIND = 40;

    // How often, of 100: deliver, want, timeout, giveUp, release, break, order, stop or start,
    // drop, copy.
    private static final int[][] MANNERS = {
        {70, 12, 2, 2, 4, 2, 3, 1, 2, 2},
        {55, 15, 8, 5, 4, 2, 2, 4, 3, 2},
        {40, 22, 4, 16, 2, 2, 2, 1, 1, 10},
        {30, 20, 2, 20, 2, 1, 1, 2, 21, 1},
        {52, 6, 0, 0, 1, 1, 37, 0, 1, 2},
        {64, 8, 2, 1, 6, 9, 7, 1, 1, 1},
    };

    private final Random random;
    private final PermitTree tree = new PermitTree();
    private final PlainModel model = new PlainModel();
    private final int clients;
    private final int cranes;
    private final boolean inOrder;
    private String call = "";
    private static int fullest = 0;
    private static int longestRow = 0;
    private static int mostDone = 0;
    private static int highest = 0;

    public static void main(String[] args) {
        for (int manner = 0; manner < MANNERS.length; manner++) {
            for (int seed = 0; seed < RUNS_OF_A_KIND; seed++) {
                new RandomRunsTest(1000L * manner + seed).run(MANNERS[manner]);
            }
        }
        CHECK.due("the post was full once", fullest, 240);
        CHECK.due("an arbiter's row was full once", longestRow, 16);
        CHECK.due("a crane did over 64 orders", mostDone > 64, true);
        CHECK.due("many permits were given", highest > 8, true);
        CHECK.end();
    }

    private RandomRunsTest(long seed) {
        random = new Random(seed);
        clients = 1 + random.nextInt(8);
        cranes = 1 + random.nextInt(4) / (1 + random.nextInt(4));
        inOrder = random.nextBoolean();
    }

    private void run(int[] manner) {
        for (int i = 0; i < CALLS; i++) {
            step(manner);
            compare();
        }
    }

    private void step(int[] manner) {
        int pick = random.nextInt(100);
        int kind = 0;
        while (kind < manner.length - 1 && pick >= manner[kind]) {
            pick -= manner[kind];
            kind++;
        }
        int client = random.nextInt(clients);
        int crane = random.nextInt(cranes);
        int arbiter = random.nextInt(random.nextBoolean() ? 15 : 4);
        int place = inOrder && random.nextInt(8) != 0 ? 0
                : random.nextInt(Math.max(1, model.post.size()));
        switch (kind) {
            case 0 -> same("deliver " + place, tree.deliver(place), model.deliver(place));
            case 1 -> same("want " + client + " " + crane, tree.want(client, crane),
                    model.want(client, crane));
            case 2 -> same("timeout " + client + " " + crane + " " + arbiter,
                    tree.timeout(client, crane, arbiter), model.timeout(client, crane, arbiter));
            case 3 -> same("giveUp " + client + " " + crane, tree.giveUp(client, crane),
                    model.giveUp(client, crane));
            case 4 -> releaseOne(holderOr(client, crane), crane);
            case 5 -> breakOne(holderOr(client, crane), crane);
            case 6 -> orderOne(holderOr(client, crane), crane);
            case 7 -> {
                if (random.nextInt(3) == 0) {
                    same("stop " + arbiter, tree.stop(arbiter), model.stop(arbiter));
                } else {
                    same("start " + arbiter, tree.start(arbiter), model.start(arbiter));
                }
            }
            case 8 -> same("drop " + place, tree.drop(place), model.drop(place));
            default -> same("copy " + place, tree.copy(place), model.copy(place));
        }
    }

    private void releaseOne(int client, int crane) {
        same("release " + client + " " + crane, tree.release(client, crane),
                model.release(client, crane));
    }

    private void breakOne(int client, int crane) {
        int number = Math.max(model.permit(client, crane), random.nextInt(3));
        same("breakPermit " + crane + " " + number, tree.breakPermit(crane, number),
                model.breakPermit(crane, number));
    }

    private void orderOne(int client, int crane) {
        int code = random.nextInt();
        same("order " + client + " " + crane, tree.order(client, crane, code),
                model.order(client, crane, code));
    }

    /** Mostly one that holds, if there is one: else little would come of what is done to it. */
    private int holderOr(int someone, int crane) {
        if (random.nextInt(5) != 0) {
            for (int client = 0; client < 8; client++) {
                if (model.permit(client, crane) != 0) {
                    return client;
                }
            }
        }
        return someone;
    }

    private void same(String what, boolean got, boolean want) {
        call = what;
        CHECK.due(call, got, want);
    }

    private void same(String what, int got, int want) {
        call = what;
        CHECK.due(call, got, want);
    }

    private void compare() {
        compareLetters();
        for (int crane = 0; crane < 4; crane++) {
            compareCrane(crane);
            int holding = 0;
            for (int client = 0; client < 8; client++) {
                CHECK.due(call + ": state", tree.state(client, crane), model.state(client, crane));
                CHECK.due(call + ": permit", tree.permit(client, crane),
                        model.permit(client, crane));
                CHECK.due(call + ": quorumOf", tree.quorumOf(client, crane),
                        model.quorumOf(client, crane));
                holding += tree.state(client, crane) == 3 ? 1 : 0;
                highest = Math.max(highest, tree.permit(client, crane));
            }
            CHECK.due(call + ": at most one holds what is not broken", holding <= 1, true);
            for (int arbiter = 0; arbiter < 15; arbiter++) {
                compareArbiter(arbiter, crane);
            }
        }
    }

    private void compareLetters() {
        CHECK.due(call + ": letters", tree.letters(), model.post.size());
        fullest = Math.max(fullest, tree.letters());
        for (int i = 0; i < model.post.size(); i++) {
            PlainModel.Letter letter = model.post.get(i);
            CHECK.due(call + ": kind", tree.letter(i, 0), letter.kind());
            CHECK.due(call + ": client", tree.letter(i, 1), letter.client());
            CHECK.due(call + ": crane", tree.letter(i, 2), letter.crane());
            CHECK.due(call + ": run", tree.letter(i, 3), letter.run());
            CHECK.due(call + ": arbiter", tree.letter(i, 4), letter.arbiter());
            CHECK.due(call + ": number", tree.letter(i, 5), letter.number());
        }
    }

    private void compareCrane(int crane) {
        List<PlainModel.Done> done = model.cranes.get(crane).done;
        CHECK.due(call + ": orders", tree.orders(crane), done.size());
        CHECK.due(call + ": highest", tree.highest(crane), model.cranes.get(crane).highest);
        mostDone = Math.max(mostDone, done.size());
        for (int i = 0; i <= done.size(); i++) {
            boolean kept = i < done.size() && i >= done.size() - 64;
            CHECK.due(call + ": number done", tree.done(crane, i, 0),
                    kept ? done.get(i).number() : -1);
            CHECK.due(call + ": code done", tree.done(crane, i, 1), kept ? done.get(i).code() : -1);
        }
    }

    private void compareArbiter(int number, int crane) {
        PlainModel.Arbiter arbiter = model.arbiter(number, crane);
        PlainModel.Claim holder = arbiter.holder;
        PlainModel.Claim first = arbiter.row.peekFirst();
        CHECK.due(call + ": holder", tree.vote(number, crane, 0),
                holder == null ? -1 : holder.client());
        CHECK.due(call + ": its run", tree.vote(number, crane, 1),
                holder == null ? -1 : holder.run());
        CHECK.due(call + ": stored", tree.vote(number, crane, 2), arbiter.stored);
        CHECK.due(call + ": waiting", tree.vote(number, crane, 3), arbiter.row.size());
        CHECK.due(call + ": first", tree.vote(number, crane, 4),
                first == null ? -1 : first.client());
        longestRow = Math.max(longestRow, arbiter.row.size());
    }
}
