import java.util.ArrayList;
import java.util.Arrays;
import java.util.List;

/** One call of the face with its arguments; those that the method does not take are 0. */
record Call(String name, int a, int b, int c) {

    static Call of(String name, int... given) {
        int[] all = Arrays.copyOf(given, 3);
        return new Call(name, all[0], all[1], all[2]);
    }

    /** The answer, a boolean counting 1 or 0. */
    int on(Face face) {
        return switch (name) {
            case "want" -> face.want(a, b);
            case "timeout" -> bit(face.timeout(a, b, c));
            case "giveUp" -> bit(face.giveUp(a, b));
            case "release" -> bit(face.release(a, b));
            case "breakPermit" -> face.breakPermit(a, b);
            case "order" -> bit(face.order(a, b, c));
            case "stop" -> bit(face.stop(a));
            case "start" -> bit(face.start(a));
            case "letters" -> face.letters();
            case "letter" -> face.letter(a, b);
            case "deliver" -> bit(face.deliver(a));
            case "drop" -> bit(face.drop(a));
            case "copy" -> bit(face.copy(a));
            case "state" -> face.state(a, b);
            case "permit" -> face.permit(a, b);
            case "quorumOf" -> face.quorumOf(a, b);
            case "vote" -> face.vote(a, b, c);
            case "orders" -> face.orders(a);
            case "done" -> face.done(a, b, c);
            case "highest" -> face.highest(a);
            default -> throw new IllegalArgumentException("no call " + name);
        };
    }

    static int onAll(Face face, List<Call> calls) {
        int last = 0;
        for (Call call : calls) {
            last = call.on(face);
        }
        return last;
    }

    private static int bit(boolean answer) {
        return answer ? 1 : 0;
    }

    /** One call with each of some arguments in each place: all that can be made of them. */
    static List<Call> each(String name, int[]... places) {
        List<Call> calls = new ArrayList<>();
        int[] one = {0};
        for (int a : places.length > 0 ? places[0] : one) {
            for (int b : places.length > 1 ? places[1] : one) {
                for (int c : places.length > 2 ? places[2] : one) {
                    calls.add(new Call(name, a, b, c));
                }
            }
        }
        return calls;
    }

    @Override
    public String toString() {
        return name + " " + a + " " + b + " " + c;
    }
}
