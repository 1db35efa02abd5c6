import java.util.ArrayList;
import java.util.List;

/** Whether two runs leave all alike: what can be asked, and what only later calls bring to light. */
final class Alike {
    private static final String SUBMITS = "submit 2 0; submit 2 1; submit 1 0; submit 1 1; submit 0 0; submit 0 1";

    private final Run one;
    private final Run other;
    private final List<Call> questions = new ArrayList<>();
    private int files;

    private Alike(Run one, Run other) {
        this.one = one;
        this.other = other;
        findQuestions();
    }

    /** The first difference that is found; null if there is none. */
    static String difference(Run one, Run other) {
        Alike alike = new Alike(one, other);
        for (Run later : alike.laterRuns()) {
            String found = alike.differenceAfter(later);
            if (found != null) {
                return found;
            }
        }
        return null;
    }

    // ---- what can be asked

    private void findQuestions() {
        DepotServer x = one.made();
        for (String name : new String[] {"journal", "changes", "joins"}) {
            ask(name, 0, 0, 0);
        }
        for (int file = 0; file < 12; file++) {
            ask("head", file, 0, 0);
            int head = x.head(file);
            files += head == DepotServer.NONE ? 0 : 1;
            for (int number = 1; number <= head + 1; number++) {
                for (int what = 0; what < 4; what++) {
                    ask("revision", file, number, what);
                }
            }
        }
        for (int file = 0; file < files; file++) {
            askAbout(file);
        }
    }

    private void askAbout(int file) {
        for (int to = 0; to < files; to++) {
            ask("joined", file, to, 0);
        }
        for (int client = 0; client < 3; client++) {
            for (String name : new String[] {"have", "text", "mapped"}) {
                ask(name, client, file, 0);
            }
            for (int what = 0; what < 6; what++) {
                ask("opened", client, file, what);
            }
            for (int k = -1; k < 2; k++) {
                ask("place", client, file, k);
            }
        }
    }

    private void ask(String name, int a, int b, int c) {
        questions.add(new Call(name, a, b, c, 0));
    }

    // ---- what later calls bring to light

    private List<Run> laterRuns() {
        List<Run> all = new ArrayList<>();
        Run nothing = Run.of("");
        all.add(nothing);
        for (int lost = 1; lost <= 8; lost++) {
            all.add(nothing.plus("crash " + lost));
        }
        Run emptied = nothing;
        for (int slot = 3; slot >= 0; slot--) {
            for (int client = 0; client < 3; client++) {
                emptied = emptied.plus("view " + client + " " + slot + " -1");
            }
            all.add(emptied);
        }
        all.add(forEach("resolve %d %d 0"));
        // Twice, as a file may owe both an update and a join.
        Run theirs = forEach("resolve %d %d 1");
        all.add(theirs.plus(theirs.calls()).plus(SUBMITS));
        all.add(nothing.plus(SUBMITS));
        all.add(forEach("add %d %d 0 true"));
        all.add(forEach("add %d %d 0 false"));
        all.add(forEach("edit %d %d 0"));
        all.add(nothing.plus("sync 2 -1; sync 1 -1; sync 0 -1"));
        all.add(nothing.plus("file; file zz; line z>z"));
        all.add(nothing.type("a".repeat(33)));
        return all;
    }

    private Run forEach(String call) {
        Run run = Run.of("");
        for (int file = 0; file < files; file++) {
            for (int client = 0; client < 3; client++) {
                run = run.plus(String.format(call, client, file));
            }
        }
        return run;
    }

    /** As many questions are asked of an object as it has calls left; then new ones are made. */
    private String differenceAfter(Run later) {
        int room = Run.MOST_CALLS - Math.max(one.size(), other.size()) - later.size();
        for (int from = 0; from < questions.size(); from += room) {
            List<Call> part = questions.subList(from, Math.min(from + room, questions.size()));
            Run all = later.plus(part);
            int[] due = one.plus(all.calls()).answers();
            int[] got = other.plus(all.calls()).answers();
            for (int k = 0; k < all.size(); k++) {
                int want = due[one.size() + k];
                int is = got[other.size() + k];
                if (is != want) {
                    return "then " + all.calls().get(k) + " answers " + is + ", not " + want;
                }
            }
        }
        return null;
    }
}
