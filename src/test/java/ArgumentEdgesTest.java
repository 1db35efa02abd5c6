import java.util.Map;

/** Any arguments in any state: each call is answered as the model does, and none throws. */
public final class ArgumentEdgesTest extends Edges {
    private static final int[] EDGES = {Integer.MIN_VALUE, -2, -1, 0, 1, 2, 3, 4, 6, 8, 9, 11, 12, 49, Integer.MAX_VALUE};
    private static final Map<String, Integer> ARGUMENTS = Map.ofEntries(
        Map.entry("view", 3), Map.entry("add", 4), Map.entry("edit", 3), Map.entry("remove", 3), Map.entry("store", 3),
        Map.entry("reopen", 3), Map.entry("revert", 2), Map.entry("sync", 2), Map.entry("join", 4),
        Map.entry("resolve", 3), Map.entry("submit", 2), Map.entry("crash", 1), Map.entry("journal", 0),
        Map.entry("changes", 0), Map.entry("joins", 0), Map.entry("head", 1), Map.entry("revision", 3),
        Map.entry("have", 2), Map.entry("text", 2), Map.entry("opened", 3), Map.entry("joined", 2),
        Map.entry("mapped", 2), Map.entry("place", 3), Map.entry("where", 1), Map.entry("file", 0), Map.entry("line", 0));

    public static void main(String[] args) {
        new ArgumentEdgesTest().runAll();
    }

    private Run state;
    private DepotServer depot;
    private Model model;
    private int calls;

    /** All calls with all arguments at an edge, each in this state. */
    private void anyArguments(Run inState) {
        state = inState;
        makeState();
        for (String name : ARGUMENTS.keySet()) {
            giveAll(name, new int[4], 0);
        }
    }

    private void giveAll(String name, int[] arguments, int filled) {
        if (filled == ARGUMENTS.get(name)) {
            give(new Call(name, arguments[0], arguments[1], arguments[2], arguments[3]));
            return;
        }
        for (int edge : EDGES) {
            arguments[filled] = edge;
            giveAll(name, arguments, filled + 1);
        }
        arguments[filled] = 0;
    }

    private void give(Call call) {
        int want = model.answer(call);
        due(call + " after " + state.size() + " calls", call.on(depot), want);
        calls++;
        boolean mayChange = call.isRecorded() && !call.isRefusedBy(want) || call.name().equals("crash")
            || call.name().equals("where") || call.name().equals("file") || call.name().equals("line");
        if (mayChange || calls == Run.MOST_CALLS) {
            makeState();
        }
    }

    private void makeState() {
        depot = state.made();
        model = new Model();
        for (Call before : state.calls()) {
            model.answer(before);
        }
        calls = state.size();
    }

    @Sentence("No call may ever throw by itself (only by a throw statement) or fail to end, for any arguments in any state")
    private void onANewObject() {
        anyArguments(Run.of(""));
    }

    @Sentence("for any arguments in any state")
    private void withNothingOpen() {
        anyArguments(TWO);
    }

    @Sentence("for any arguments in any state")
    private void withOwingAndExclusiveFiles() {
        anyArguments(TWO.then("join 1 0 1 0; edit 0 1 0; submit 0 0; sync 1 -1; add 2 2 1 true; remove 0 0 1; type a"));
    }

    @Sentence("for any arguments in any state")
    private void withCreditsAndDeletedFiles() {
        anyArguments(TWO.then("join 1 0 1 0; resolve 1 1 1; remove 0 0 0; submit 0 0; view 2 3 0; type ~>w/~"));
    }

    @Sentence("for any arguments in any state")
    private void with48Revisions() {
        anyArguments(SEEN.then("add 0 0 0 false; submit 0 0").times(47, "edit 0 0 0; submit 0 0").then("edit 0 0 1"));
    }

    @Sentence("for any arguments in any state")
    private void withTwelveFilesAndTenLines() {
        Run full = Run.of("line ~>~; line -a; line b~>~").times(7, "line ~>x~");
        for (char c = 'a'; c <= 'l'; c++) {
            full = full.then("file " + c);
        }
        anyArguments(full.then("view 0 0 0; view 1 1 9; view 2 2 2; view 2 3 1; add 0 11 1 true; add 1 0 0 false; "
            + "submit 1 0; join 1 0 5 1; type m"));
    }
}
