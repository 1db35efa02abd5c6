import java.util.Set;

/** A call of the face with its arguments as ints (a boolean counts 1 or 0), unused ones being 0. */
record Call(String name, int a, int b, int c, int d) {
    private static final Set<String> RECORDED = Set.of("view", "add", "edit", "remove", "store", "reopen",
        "revert", "sync", "join", "resolve", "submit");
    private static final Set<String> REFUSABLE = Set.of("write", "file", "line", "crash");
    private static final Set<String> BOOLEAN = Set.of("view", "store", "reopen", "revert", "write", "mapped");

    boolean isRecorded() {
        return RECORDED.contains(name);
    }

    boolean answersBoolean() {
        return BOOLEAN.contains(name);
    }

    /** Whether this answer refuses the call; a question is never refused. */
    boolean isRefusedBy(int answer) {
        return (isRecorded() || REFUSABLE.contains(name)) && (answersBoolean() ? answer == 0 : answer < 0);
    }

    /** The answer of a depot; a boolean counts 1 or 0. */
    int on(DepotServer x) {
        return switch (name) {
            case "write" -> number(x.write((char) a));
            case "file" -> x.file();
            case "line" -> x.line();
            case "view" -> number(x.view(a, b, c));
            case "add" -> x.add(a, b, c, d == 1);
            case "edit" -> x.edit(a, b, c);
            case "remove" -> x.remove(a, b, c);
            case "store" -> number(x.store(a, b, c));
            case "reopen" -> number(x.reopen(a, b, c));
            case "revert" -> number(x.revert(a, b));
            case "sync" -> x.sync(a, b);
            case "join" -> x.join(a, b, c, d);
            case "resolve" -> x.resolve(a, b, c);
            case "submit" -> x.submit(a, b);
            case "crash" -> x.crash(a);
            case "journal" -> x.journal();
            case "changes" -> x.changes();
            case "joins" -> x.joins();
            case "head" -> x.head(a);
            case "revision" -> x.revision(a, b, c);
            case "have" -> x.have(a, b);
            case "text" -> x.text(a, b);
            case "opened" -> x.opened(a, b, c);
            case "joined" -> x.joined(a, b);
            case "mapped" -> number(x.mapped(a, b));
            case "place" -> x.place(a, b, c);
            case "where" -> x.where(a);
            default -> throw new IllegalArgumentException(name);
        };
    }

    private static int number(boolean answer) {
        return answer ? 1 : 0;
    }
}
