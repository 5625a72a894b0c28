import java.util.ArrayDeque;
import java.util.ArrayList;
import java.util.Collections;
import java.util.Deque;
import java.util.HashMap;
import java.util.List;
import java.util.Map;
import java.util.Set;
import java.util.TreeMap;
import java.util.TreeSet;

/**
 * The document's terms once more, as plainly as the Java library allows, on lists, maps and sets:
 * scenes and random runs are held against it.
 */
final class PlainModel implements Face {
    record Letter(int kind, int client, int crane, int run, int arbiter, int number, int code) {
    }

    record Claim(int client, int run) {
    }

    record Done(int number, int code) {
    }

    static final class Attempt {
        final int run;
        String state = "asking";
        boolean broken = false;
        final Set<Integer> silent = new TreeSet<>();
        final Set<Integer> asked = new TreeSet<>();
        final Map<Integer, Integer> votes = new TreeMap<>();
        Set<Integer> quorum = null;
        final Set<Integer> stored = new TreeSet<>();
        int number = 0;

        Attempt(int run) {
            this.run = run;
        }
    }

    static final class Arbiter {
        Claim holder = null;
        final Deque<Claim> row = new ArrayDeque<>();
        int stored = 0;
    }

    static final class Crane {
        int highest = 0;
        final List<Integer> broken = new ArrayList<>();
        final List<Done> done = new ArrayList<>();
    }

    final List<Letter> post = new ArrayList<>();
    final Map<Integer, Integer> runs = new HashMap<>();
    /** By client and crane, as text; who is not at the crane is not in it. */
    final Map<String, Attempt> attempts = new HashMap<>();
    final Map<String, Arbiter> arbiters = new HashMap<>();
    final Map<Integer, Crane> cranes = new HashMap<>();
    final Set<Integer> down = new TreeSet<>();

    PlainModel() {
        for (int crane = 0; crane < 4; crane++) {
            cranes.put(crane, new Crane());
            for (int arbiter = 0; arbiter < 15; arbiter++) {
                arbiters.put(arbiter + "/" + crane, new Arbiter());
            }
        }
    }

    Attempt attempt(int client, int crane) {
        return attempts.get(client + "/" + crane);
    }

    Arbiter arbiter(int arbiter, int crane) {
        return arbiters.get(arbiter + "/" + crane);
    }

    private static boolean isAny(int i, int count) {
        return i >= 0 && i < count;
    }

    private static Set<Integer> route(int arbiter, Set<Integer> silent) {
        Set<Integer> route = new TreeSet<>();
        if (arbiter >= 7) {
            route.add(arbiter);
            return silent.contains(arbiter) ? null : route;
        }
        Set<Integer> left = route(2 * arbiter + 1, silent);
        Set<Integer> right = route(2 * arbiter + 2, silent);
        if (silent.contains(arbiter)) {
            if (left == null || right == null) {
                return null;
            }
            route.addAll(left);
            route.addAll(right);
            return route;
        }
        Set<Integer> below = left != null ? left : right;
        if (below == null) {
            return null;
        }
        route.add(arbiter);
        route.addAll(below);
        return route;
    }

    private void send(Letter letter) {
        if (post.size() < 240) {
            post.add(letter);
        }
    }

    private void sendAll(Set<Integer> to, int kind, int client, int crane, int run, int number) {
        for (int arbiter : to) {
            send(new Letter(kind, client, crane, run, arbiter, number, 0));
        }
    }

    @Override
    public int want(int client, int crane) {
        if (!isAny(client, 8) || !isAny(crane, 4) || attempt(client, crane) != null) {
            return -1;
        }
        Attempt attempt = new Attempt(runs.merge(client, 1, Integer::sum));
        attempts.put(client + "/" + crane, attempt);
        ask(client, crane, attempt);
        return attempt.run;
    }

    private void ask(int client, int crane, Attempt attempt) {
        Set<Integer> route = route(0, attempt.silent);
        if (route == null) {
            return;
        }
        route.removeAll(attempt.asked);
        attempt.asked.addAll(route);
        sendAll(route, 1, client, crane, attempt.run, 0);
    }

    private void write(int client, int crane, Attempt attempt) {
        Set<Integer> route = route(0, attempt.silent);
        if (route == null || !attempt.votes.keySet().containsAll(route)) {
            return;
        }
        attempt.state = "writing";
        attempt.quorum = route;
        attempt.number = Collections.max(attempt.votes.values()) + 1;
        sendAll(route, 3, client, crane, attempt.run, attempt.number);
    }

    @Override
    public boolean timeout(int client, int crane, int arbiter) {
        Attempt attempt = attempt(client, crane);
        if (attempt == null || !attempt.state.equals("asking") || !isAny(arbiter, 15)
                || !attempt.silent.add(arbiter)) {
            return false;
        }
        ask(client, crane, attempt);
        write(client, crane, attempt);
        return true;
    }

    @Override
    public boolean giveUp(int client, int crane) {
        Attempt attempt = attempt(client, crane);
        return attempt != null && !attempt.state.equals("holding") && end(client, crane);
    }

    @Override
    public boolean release(int client, int crane) {
        Attempt attempt = attempt(client, crane);
        return attempt != null && attempt.state.equals("holding") && end(client, crane);
    }

    private boolean end(int client, int crane) {
        Attempt attempt = attempts.remove(client + "/" + crane);
        sendAll(attempt.asked, 5, client, crane, attempt.run, 0);
        return true;
    }

    @Override
    public int breakPermit(int crane, int number) {
        for (int client = 0; client < 8; client++) {
            Attempt attempt = attempt(client, crane);
            if (attempt == null || !attempt.state.equals("holding") || attempt.broken
                    || attempt.number != number) {
                continue;
            }
            attempt.broken = true;
            for (int arbiter = 0; arbiter < 15; arbiter++) {
                send(new Letter(6, client, crane, attempt.run, arbiter, number, 0));
            }
            send(new Letter(7, client, crane, attempt.run, -1, number, 0));
            return client;
        }
        return -1;
    }

    @Override
    public boolean order(int client, int crane, int code) {
        Attempt attempt = attempt(client, crane);
        if (attempt == null || !attempt.state.equals("holding")) {
            return false;
        }
        send(new Letter(8, client, crane, attempt.run, -1, attempt.number, code));
        return true;
    }

    @Override
    public boolean stop(int arbiter) {
        return isAny(arbiter, 15) && down.add(arbiter);
    }

    @Override
    public boolean start(int arbiter) {
        return down.remove(arbiter);
    }

    @Override
    public boolean deliver(int i) {
        if (!isAny(i, post.size())) {
            return false;
        }
        Letter letter = post.remove(i);
        switch (letter.kind) {
            case 2 -> comeVote(letter);
            case 4 -> comeStored(letter);
            case 7 -> {
                Crane crane = cranes.get(letter.crane);
                crane.broken.add(letter.number);
                crane.highest = Math.max(crane.highest, letter.number);
            }
            case 8 -> comeOrder(letter);
            default -> {
                if (!down.contains(letter.arbiter)) {
                    comeToArbiter(letter);
                }
            }
        }
        return true;
    }

    private void comeVote(Letter letter) {
        Attempt attempt = attempt(letter.client, letter.crane);
        if (attempt == null || attempt.run != letter.run) {
            send(new Letter(5, letter.client, letter.crane, letter.run, letter.arbiter, 0, 0));
        } else if (attempt.state.equals("asking")) {
            attempt.votes.put(letter.arbiter, letter.number);
            write(letter.client, letter.crane, attempt);
        }
    }

    private void comeStored(Letter letter) {
        Attempt attempt = attempt(letter.client, letter.crane);
        if (attempt != null && attempt.run == letter.run && attempt.state.equals("writing")) {
            attempt.stored.add(letter.arbiter);
            if (attempt.stored.containsAll(attempt.quorum)) {
                attempt.state = "holding";
            }
        }
    }

    private void comeOrder(Letter letter) {
        Crane crane = cranes.get(letter.crane);
        if (letter.number >= crane.highest
                && crane.broken.stream().allMatch(broken -> letter.number > broken)) {
            crane.done.add(new Done(letter.number, letter.code));
            crane.highest = letter.number;
        }
    }

    private void comeToArbiter(Letter letter) {
        Arbiter arbiter = arbiter(letter.arbiter, letter.crane);
        Claim claim = new Claim(letter.client, letter.run);
        boolean holds = claim.equals(arbiter.holder);
        if (letter.kind == 1) {
            if (holds || arbiter.row.contains(claim)) {
                return;
            }
            if (arbiter.holder == null) {
                arbiter.holder = claim;
                sendVote(letter.arbiter, letter.crane, arbiter);
            } else if (arbiter.row.size() < 16) {
                arbiter.row.addLast(claim);
            }
        } else if (letter.kind == 3) {
            if (holds) {
                arbiter.stored = Math.max(arbiter.stored, letter.number);
                send(new Letter(4, letter.client, letter.crane, letter.run, letter.arbiter, 0, 0));
            }
        } else {
            arbiter.row.remove(claim);
            if (holds) {
                arbiter.holder = arbiter.row.pollFirst();
                if (arbiter.holder != null) {
                    sendVote(letter.arbiter, letter.crane, arbiter);
                }
            }
        }
    }

    private void sendVote(int number, int crane, Arbiter arbiter) {
        send(new Letter(2, arbiter.holder.client, crane, arbiter.holder.run, number,
                arbiter.stored, 0));
    }

    @Override
    public boolean drop(int i) {
        return isAny(i, post.size()) && post.remove(i) != null;
    }

    @Override
    public boolean copy(int i) {
        return isAny(i, post.size()) && post.size() < 240 && post.add(post.get(i));
    }

    @Override
    public int state(int client, int crane) {
        if (!isAny(client, 8) || !isAny(crane, 4)) {
            return -1;
        }
        Attempt attempt = attempt(client, crane);
        if (attempt == null) {
            return 0;
        }
        if (attempt.broken) {
            return 4;
        }
        return List.of("", "asking", "writing", "holding").indexOf(attempt.state);
    }

    @Override
    public int permit(int client, int crane) {
        Attempt attempt = attempt(client, crane);
        return attempt != null && attempt.state.equals("holding") ? attempt.number : 0;
    }

    int highestPermit() {
        int highest = 0;
        for (Attempt attempt : attempts.values()) {
            if (attempt.state.equals("holding")) {
                highest = Math.max(highest, attempt.number);
            }
        }
        return highest;
    }

    @Override
    public int quorumOf(int client, int crane) {
        Attempt attempt = attempt(client, crane);
        if (attempt == null) {
            return 0;
        }
        Set<Integer> set = attempt.quorum;
        if (set == null) {
            Set<Integer> route = route(0, attempt.silent);
            set = new TreeSet<>(attempt.votes.keySet());
            set.retainAll(route == null ? Set.of() : route);
        }
        int bits = 0;
        for (int arbiter : set) {
            bits |= 1 << arbiter;
        }
        return bits;
    }

    @Override
    public int letters() {
        return post.size();
    }

    @Override
    public int letter(int i, int what) {
        if (!isAny(i, post.size()) || !isAny(what, 6)) {
            return -1;
        }
        Letter letter = post.get(i);
        return List.of(letter.kind, letter.client, letter.crane, letter.run, letter.arbiter,
                letter.number).get(what);
    }

    @Override
    public int vote(int number, int crane, int what) {
        Arbiter arbiter = arbiter(number, crane);
        if (arbiter == null || !isAny(what, 5)) {
            return -1;
        }
        Claim none = new Claim(-1, -1);
        Claim holder = arbiter.holder == null ? none : arbiter.holder;
        Claim first = arbiter.row.isEmpty() ? none : arbiter.row.peekFirst();
        return List.of(holder.client, holder.run, arbiter.stored, arbiter.row.size(),
                first.client).get(what);
    }

    @Override
    public int orders(int crane) {
        return isAny(crane, 4) ? cranes.get(crane).done.size() : -1;
    }

    @Override
    public int done(int crane, int i, int what) {
        int count = orders(crane);
        if (!isAny(i, count) || i < count - 64 || !isAny(what, 2)) {
            return -1;
        }
        Done one = cranes.get(crane).done.get(i);
        return what == 0 ? one.number : one.code;
    }

    @Override
    public int highest(int crane) {
        return isAny(crane, 4) ? cranes.get(crane).highest : -1;
    }
}
