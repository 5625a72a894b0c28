import java.util.ArrayList;
import java.util.List;
import java.util.Set;

/**
 * Refused calls, of every promise, at every boundary that Scenes has: the answer says so, and
 * nothing has happened by them. Also that each scene looks as the plain model says it does.
 */
public final class RefusedTest {
    private static final Check CHECK = new Check();
    // So many refused calls at once, for an object is used for at most 512 calls.
    private static final int AT_ONCE = 100;

    private static final int MIN = Integer.MIN_VALUE;
    private static final int MAX = Integer.MAX_VALUE;

    private static final Set<String> ANSWER_NONE = Set.of("want", "breakPermit", "letter", "state",
            "vote", "orders", "done", "highest");

    public static void main(String[] args) {
        for (Scenes.Scene scene : Scenes.all()) {
            List<String> seen = Sight.of(Tree::new, scene.calls());
            CHECK.due(scene.name() + ": as the plain model is",
                    Sight.difference(seen, Sight.of(PlainModel::new, scene.calls())), "");
            nothingHappens(scene, seen, wrongArguments());
            nothingHappens(scene, seen, wrongPlaces(scene));
            nothingHappens(scene, seen, wrongTimes(scene));
        }
        CHECK.end();
    }

    private static void nothingHappens(Scenes.Scene scene, List<String> seen, List<Call> refused) {
        for (int from = 0; from < refused.size(); from += AT_ONCE) {
            int to = Math.min(refused.size(), from + AT_ONCE);
            List<Call> some = refused.subList(from, to);
            Tree tree = new Tree();
            Call.onAll(tree, scene.calls());
            for (Call call : some) {
                CHECK.due(scene.name() + ": " + call, call.on(tree), refusal(call));
            }
            List<Call> both = new ArrayList<>(scene.calls());
            both.addAll(some);
            CHECK.due(scene.name() + ": what is seen after " + some,
                    Sight.difference(Sight.of(Tree::new, both), seen), "");
        }
    }

    private static int refusal(Call call) {
        return ANSWER_NONE.contains(call.name()) ? PermitTree.NONE : 0;
    }

    /** Clients, cranes and arbiters that there are none of, whatever the scene. */
    private static List<Call> wrongArguments() {
        List<Call> calls = new ArrayList<>();
        for (String name : List.of("want", "giveUp", "release", "state", "permit", "quorumOf")) {
            addWrongPairs(calls, name, new int[] {0});
        }
        addWrongPairs(calls, "order", new int[] {0});
        addWrongPairs(calls, "timeout", new int[] {0, 14});
        int[] wrongArbiters = {-1, 15, 16, 31, 32, 46, -32, 1 << 30, MIN, MAX};
        int[] wrongCranes = {-1, 4, 1 << 30, MIN, MAX};
        int[] clients = {0, 7};
        int[] cranes = {0, 3};
        calls.addAll(Call.each("timeout", clients, cranes, wrongArbiters));
        calls.addAll(Call.each("stop", wrongArbiters));
        calls.addAll(Call.each("start", wrongArbiters));
        calls.addAll(Call.each("vote", wrongArbiters, cranes, new int[] {0, 2, 3}));
        calls.addAll(Call.each("vote", new int[] {0, 14}, wrongCranes, new int[] {0, 2, 3}));
        calls.addAll(Call.each("vote", new int[] {0, 14}, cranes, new int[] {-1, 5, MIN, MAX}));
        calls.addAll(Call.each("breakPermit", wrongCranes, new int[] {0, 1, 2}));
        calls.addAll(Call.each("breakPermit", cranes, new int[] {0, -1, MIN, MAX}));
        calls.addAll(Call.each("orders", wrongCranes));
        calls.addAll(Call.each("highest", wrongCranes));
        calls.addAll(Call.each("done", wrongCranes, new int[] {0, 1}, new int[] {0, 1}));
        calls.addAll(Call.each("done", cranes, new int[] {-1, MIN, MAX}, new int[] {0, 1}));
        calls.addAll(Call.each("done", cranes, new int[] {0, 1, 64}, new int[] {-1, 2, MIN, MAX}));
        return calls;
    }

    /** Pairs too, that a row of clients times cranes would take for others. */
    private static void addWrongPairs(List<Call> calls, String name, int[] last) {
        int[] wrongClients = {-1, 8, 1 << 30, MIN, MAX};
        int[] wrongCranes = {-1, 4, 1 << 30, MIN, MAX};
        calls.addAll(Call.each(name, wrongClients, new int[] {0, 3}, last));
        calls.addAll(Call.each(name, new int[] {0, 7}, wrongCranes, last));
        calls.addAll(Call.each(name, new int[] {-1}, new int[] {4, 7, 8}, last));
        calls.addAll(Call.each(name, new int[] {1}, new int[] {-4, -1}, last));
        calls.addAll(Call.each(name, new int[] {8}, new int[] {-4, -1}, last));
        calls.addAll(Call.each(name, new int[] {0}, new int[] {5, 8, 28, 31}, last));
    }

    private static List<Call> wrongPlaces(Scenes.Scene scene) {
        Tree tree = new Tree();
        Call.onAll(tree, scene.calls());
        int count = tree.letters();
        List<Call> calls = new ArrayList<>();
        int[] places = {-1, count, count + 1, 240, 241, 1 << 30, MIN, MAX};
        for (String name : List.of("deliver", "drop", "copy")) {
            calls.addAll(Call.each(name, places));
        }
        calls.addAll(Call.each("letter", places, new int[] {0, 5}));
        int[] whats = {-1, 6, 7, MIN, MAX};
        calls.addAll(Call.each("letter", new int[] {0, count - 1}, whats));
        if (count == 240) {
            calls.addAll(Call.each("copy", new int[] {0, 120, 239}));
        }
        for (int crane = 0; crane < 4; crane++) {
            calls.add(Call.of("done", crane, tree.orders(crane), 0));
            calls.add(Call.of("done", crane, tree.orders(crane) - 65, 0));
        }
        return calls;
    }

    /** Right arguments at a wrong time: what a client is at a crane says which. */
    private static List<Call> wrongTimes(Scenes.Scene scene) {
        PlainModel model = new PlainModel();
        Call.onAll(model, scene.calls());
        List<Call> calls = new ArrayList<>();
        for (int client = 0; client < 8; client++) {
            for (int crane = 0; crane < 4; crane++) {
                addWrongTimes(calls, model, client, crane);
            }
        }
        for (int arbiter = 0; arbiter < 15; arbiter++) {
            boolean down = model.down.contains(arbiter);
            calls.add(Call.of(down ? "stop" : "start", arbiter));
        }
        for (int crane = 0; crane < 4; crane++) {
            for (int number = 0; number < 5; number++) {
                if (!isHeld(model, crane, number)) {
                    calls.add(Call.of("breakPermit", crane, number));
                }
            }
        }
        return calls;
    }

    private static void addWrongTimes(List<Call> calls, PlainModel model, int client, int crane) {
        int state = model.state(client, crane);
        if (state != 0) {
            calls.add(Call.of("want", client, crane));
        }
        if (state != 1 && state != 2) {
            calls.add(Call.of("giveUp", client, crane));
        }
        if (state != 3 && state != 4) {
            calls.add(Call.of("release", client, crane));
            calls.add(Call.of("order", client, crane, 1));
        }
        for (int arbiter = 0; arbiter < 15; arbiter++) {
            if (state != 1 || model.attempt(client, crane).silent.contains(arbiter)) {
                calls.add(Call.of("timeout", client, crane, arbiter));
            }
        }
    }

    private static boolean isHeld(PlainModel model, int crane, int number) {
        for (int client = 0; client < 8; client++) {
            if (model.state(client, crane) == 3 && model.permit(client, crane) == number) {
                return true;
            }
        }
        return false;
    }

    private RefusedTest() {
    }
}
