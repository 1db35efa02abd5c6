import java.util.ArrayList;
import java.util.List;

/**
 * A row of calls that can be made again and again, each time on a new object. It is written as a
 * text: calls with their arguments behind them, parted by ';'. A text behind file, line, where
 * and type goes into the buffer first; type does no more than that.
 */
final class Run {
    /** What is asked of an object after so many calls is free. */
    static final int MOST_CALLS = 512;

    private final List<Call> calls;

    private Run(List<Call> calls) {
        if (calls.size() > MOST_CALLS) {
            throw new IllegalStateException("a run of " + calls.size() + " calls");
        }
        this.calls = List.copyOf(calls);
    }

    static Run of(String text) {
        return new Run(List.of()).then(text);
    }

    int size() {
        return calls.size();
    }

    List<Call> calls() {
        return calls;
    }

    /**
     * This run with calls that must not be refused, but for those with a ! before them, which
     * must be: a test that stands on a run which went otherwise would show nothing.
     */
    Run then(String text) {
        Run run = this;
        for (String written : text.split(";")) {
            boolean toBeRefused = written.trim().startsWith("!");
            run = run.plus(written.replace("!", ""));
            if (run.size() > size() && run.isRefused() != toBeRefused) {
                throw new IllegalStateException("'" + written + "' of '" + text + "' answered " + run.answer());
            }
        }
        return run;
    }

    /** This run with calls that may be answered as they like. */
    Run plus(String text) {
        List<Call> all = new ArrayList<>(calls);
        for (String written : text.split(";")) {
            addCall(all, written.trim().split(" +"));
        }
        return new Run(all);
    }

    Run plus(List<Call> more) {
        List<Call> all = new ArrayList<>(calls);
        all.addAll(more);
        return new Run(all);
    }

    Run times(int count, String text) {
        Run run = this;
        for (int k = 0; k < count; k++) {
            run = run.then(text);
        }
        return run;
    }

    /** For texts with blanks or ';' in them. */
    Run type(String text) {
        List<Call> all = new ArrayList<>(calls);
        addWrites(all, text);
        return new Run(all);
    }

    /** A new object on which all calls were made. */
    DepotServer made() {
        DepotServer x = new DepotServer();
        for (Call call : calls) {
            call.on(x);
        }
        return x;
    }

    /** The answers of all calls on a new object; a boolean counts 1 or 0. */
    int[] answers() {
        DepotServer x = new DepotServer();
        int[] answers = new int[calls.size()];
        for (int k = 0; k < answers.length; k++) {
            answers[k] = calls.get(k).on(x);
        }
        return answers;
    }

    /** The answer of the last call. */
    int answer() {
        return answers()[calls.size() - 1];
    }

    private boolean isRefused() {
        return calls.get(calls.size() - 1).isRefusedBy(answer());
    }

    private static void addCall(List<Call> all, String[] words) {
        String name = words[0];
        if (name.isEmpty()) {
            return;
        }
        int numbers = name.equals("where") ? 1 : 0;
        if (name.equals("file") || name.equals("line") || name.equals("where") || name.equals("type")) {
            addWrites(all, words.length > numbers + 1 ? words[numbers + 1] : "");
        } else {
            numbers = words.length - 1;
        }
        int[] arguments = new int[4];
        for (int k = 0; k < numbers; k++) {
            arguments[k] = number(words[k + 1]);
        }
        if (!name.equals("type")) {
            all.add(new Call(name, arguments[0], arguments[1], arguments[2], arguments[3]));
        }
    }

    private static void addWrites(List<Call> all, String text) {
        for (char c : text.toCharArray()) {
            all.add(new Call("write", c, 0, 0, 0));
        }
    }

    private static int number(String word) {
        return switch (word) {
            case "true" -> 1;
            case "false" -> 0;
            case "MIN" -> Integer.MIN_VALUE;
            case "MAX" -> Integer.MAX_VALUE;
            default -> Integer.decode(word);
        };
    }
}
