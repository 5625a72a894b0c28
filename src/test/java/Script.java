import java.util.ArrayList;
import java.util.List;

/**
 * Calls written as text, on a new object: "want 0 0 = 1; 4 x deliver 0; shows 0 = 2 0 0 1 0 0".
 * Behind "=" stands the answer that is due (1 or 0 for a boolean); "4 x" makes a call four times;
 * "shows i" stands for the six answers about the letter at place i; max and min are those of int.
 */
final class Script {
    private record Step(String text, int times, String name, int[] arguments, String due) {
    }

    private final Check check;

    Script(Check check) {
        this.check = check;
    }

    void run(String title, String... parts) {
        Tree tree = new Tree();
        int place = 0;
        for (Step step : steps(parts)) {
            for (int i = 0; i < step.times; i++) {
                place++;
                String answer = answer(tree, step);
                if (!step.due.isEmpty()) {
                    check.due(title + ": call " + place + ", " + step.text, answer, step.due);
                }
            }
        }
    }

    /** The calls of the second text are refused after those of the first: nothing comes of them. */
    void refused(String title, String before, String refused) {
        run(title, before, refused);
        List<String> without = Sight.of(Tree::new, calls(before));
        List<String> with = Sight.of(Tree::new, calls(before, refused));
        check.due(title + ": what is seen then", Sight.difference(with, without), "");
    }

    private static String answer(Tree tree, Step step) {
        if (!step.name.equals("shows")) {
            return "" + Call.of(step.name, step.arguments).on(tree);
        }
        StringBuilder all = new StringBuilder();
        for (int what = 0; what < 6; what++) {
            all.append(what == 0 ? "" : " ").append(tree.letter(step.arguments[0], what));
        }
        return all.toString();
    }

    /** The calls alone, without the answers that are due. */
    static List<Call> calls(String... parts) {
        List<Call> calls = new ArrayList<>();
        for (Step step : steps(parts)) {
            for (int i = 0; i < step.times; i++) {
                calls.add(Call.of(step.name, step.arguments));
            }
        }
        return calls;
    }

    private static List<Step> steps(String... parts) {
        List<Step> steps = new ArrayList<>();
        for (String part : parts) {
            for (String text : part.split(";")) {
                if (!text.isBlank()) {
                    steps.add(step(text.trim()));
                }
            }
        }
        return steps;
    }

    private static Step step(String text) {
        String[] sides = text.split("=", 2);
        String[] words = sides[0].trim().split(" +");
        int first = words.length > 1 && words[1].equals("x") ? 2 : 0;
        int times = first == 2 ? Integer.parseInt(words[0]) : 1;
        int[] arguments = new int[words.length - first - 1];
        for (int i = 0; i < arguments.length; i++) {
            arguments[i] = number(words[first + 1 + i]);
        }
        String due = sides.length == 1 ? "" : dueText(sides[1].trim());
        return new Step(text, times, words[first], arguments, due);
    }

    private static String dueText(String text) {
        return text.equals("max") || text.equals("min") ? "" + number(text) : text;
    }

    private static int number(String word) {
        if (word.equals("max")) {
            return Integer.MAX_VALUE;
        }
        return word.equals("min") ? Integer.MIN_VALUE : Integer.parseInt(word);
    }
}
