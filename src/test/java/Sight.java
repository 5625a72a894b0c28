import java.util.ArrayList;
import java.util.List;
import java.util.function.Supplier;

/**
 * All that can be seen of an object after some calls: what it tells of itself, and what each next
 * call would answer and bring about (which shows runs, silent arbiters, codes and who is down).
 * Many new objects take the same calls for it, since each is used for at most 512.
 */
final class Sight {
    private final Supplier<Face> maker;
    private final List<Call> before;
    private final List<String> lines = new ArrayList<>();
    private Face current = null;
    private int left = 0;

    private Sight(Supplier<Face> maker, List<Call> before) {
        this.maker = maker;
        this.before = before;
    }

    static List<String> of(Supplier<Face> maker, List<Call> before) {
        Sight sight = new Sight(maker, before);
        sight.look();
        return sight.lines;
    }

    /** The first line of one that is not in the other so, empty if they are the same. */
    static String difference(List<String> got, List<String> due) {
        for (int i = 0; i < Math.max(got.size(), due.size()); i++) {
            String one = i < got.size() ? got.get(i) : "(nothing more)";
            String other = i < due.size() ? due.get(i) : "(nothing more)";
            if (!one.equals(other)) {
                return "seen [" + one + "], due is [" + other + "]";
            }
        }
        return "";
    }

    private void look() {
        int letters = ask(Call.of("letters"));
        for (int i = 0; i <= letters; i++) {
            for (int what = 0; what < 6; what++) {
                tell(Call.of("letter", i, what));
            }
        }
        for (int crane = 0; crane < 4; crane++) {
            lookAtCrane(crane);
            for (int client = 0; client < 8; client++) {
                lookAtClient(client, crane);
            }
            for (int arbiter = 0; arbiter < 15; arbiter++) {
                for (int what = 0; what < 5; what++) {
                    tell(Call.of("vote", arbiter, crane, what));
                }
            }
        }
        for (int arbiter = 0; arbiter < 15; arbiter++) {
            tellNext(Call.of("stop", arbiter), letters);
            tellNext(Call.of("start", arbiter), letters);
        }
        for (int i = 0; i <= letters; i++) {
            tellDelivery(i, letters);
        }
        for (int i : new int[] {0, letters - 1}) {
            tellNext(Call.of("drop", i), letters);
            tellNext(Call.of("copy", i), letters);
        }
    }

    private void lookAtCrane(int crane) {
        int orders = tell(Call.of("orders", crane));
        tell(Call.of("highest", crane));
        for (int i = Math.max(0, orders - 65); i <= orders; i++) {
            tell(Call.of("done", crane, i, 0));
            tell(Call.of("done", crane, i, 1));
        }
        for (int number = 0; number < 5; number++) {
            tellNext(Call.of("breakPermit", crane, number), ask(Call.of("letters")));
        }
    }

    private void lookAtClient(int client, int crane) {
        int letters = ask(Call.of("letters"));
        int state = tell(Call.of("state", client, crane));
        tell(Call.of("permit", client, crane));
        tell(Call.of("quorumOf", client, crane));
        tellNext(Call.of("want", client, crane), letters);
        tellNext(Call.of("giveUp", client, crane), letters);
        tellNext(Call.of("release", client, crane), letters);
        tellNext(Call.of("order", client, crane, 77), letters);
        for (int arbiter = 0; arbiter < (state == 1 ? 15 : 1); arbiter++) {
            tellNext(Call.of("timeout", client, crane, arbiter), letters);
        }
    }

    private Face after() {
        Face face = maker.get();
        Call.onAll(face, before);
        return face;
    }

    /** A question that changes nothing: one object takes as many as it may. */
    private int ask(Call question) {
        if (left == 0) {
            current = after();
            left = Tree.MOST_CALLS - before.size();
        }
        left--;
        return question.on(current);
    }

    private int tell(Call question) {
        int answer = ask(question);
        lines.add(question + ": " + answer);
        return answer;
    }

    /** A call on an object of its own, with the letters that came of it. */
    private Face tellNext(Call call, int letters) {
        Face face = after();
        StringBuilder line = new StringBuilder();
        line.append("next ").append(call).append(": ").append(call.on(face));
        int count = face.letters();
        line.append(", letters ").append(count).append(':');
        for (int i = Math.max(0, letters - 1); i < count; i++) {
            for (int what = 0; what < 6; what++) {
                line.append(' ').append(face.letter(i, what));
            }
            line.append(',');
        }
        lines.add(line.toString());
        return face;
    }

    private void tellDelivery(int i, int letters) {
        int client = ask(Call.of("letter", i, 1));
        int crane = ask(Call.of("letter", i, 2));
        int arbiter = ask(Call.of("letter", i, 4));
        Face face = tellNext(Call.of("deliver", i), letters);
        StringBuilder line = new StringBuilder("then");
        line.append(' ').append(face.state(client, crane));
        line.append(' ').append(face.permit(client, crane));
        line.append(' ').append(face.quorumOf(client, crane));
        for (int what = 0; what < 5; what++) {
            line.append(' ').append(face.vote(arbiter, crane, what));
        }
        int orders = face.orders(crane);
        line.append(' ').append(orders).append(' ').append(face.highest(crane));
        line.append(' ').append(face.done(crane, orders - 1, 0));
        line.append(' ').append(face.done(crane, orders - 1, 1));
        lines.add(line.toString());
    }
}
