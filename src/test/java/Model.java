import java.util.ArrayList;
import java.util.HashMap;
import java.util.List;
import java.util.Map;
import java.util.TreeMap;

/**
 * The document once more, written to be plain and to share no thought with DepotServer: texts
 * are Strings, a line is fitted by trying all rows, and a crash makes all records anew but the
 * ones that are lost.
 */
final class Model {
    private record Revision(int change, int content, boolean deleted, boolean exclusive) {
    }

    private record Owed(int file, int number) {
    }

    private record Credit(int file, int number, boolean copy) {
    }

    private static final class Opened {
        String kind;
        int list;
        int base;
        boolean exclusive;
        Integer update;
        Owed join;
        Credit credit;

        Opened(String kind, int list, int base, boolean exclusive) {
            this.kind = kind;
            this.list = list;
            this.base = base;
            this.exclusive = exclusive;
        }
    }

    // Trying all rows is slow, and what it finds holds for every model.
    private static final Map<String, String[]> FOUND = new HashMap<>();

    private String buffer = "";
    private final List<String> paths = new ArrayList<>();
    private final List<String> lines = new ArrayList<>();

    private final List<Call> journal = new ArrayList<>();
    private int kept;

    private final List<TreeMap<Integer, String>> views = new ArrayList<>();
    private final Map<Integer, List<Revision>> revisions = new HashMap<>();
    private final Map<List<Integer>, Integer> haves = new HashMap<>();
    private final Map<List<Integer>, Integer> texts = new HashMap<>();
    private final Map<List<Integer>, Opened> opens = new HashMap<>();
    private final Map<List<Integer>, Integer> joined = new HashMap<>();
    private int changes;
    private int joins;

    Model() {
        reset();
    }

    private void reset() {
        views.clear();
        for (int client = 0; client < 3; client++) {
            views.add(new TreeMap<>());
        }
        revisions.clear();
        haves.clear();
        texts.clear();
        opens.clear();
        joined.clear();
        changes = 0;
        joins = 0;
    }

    /** The answer to a call; a boolean counts 1 or 0. */
    int answer(Call call) {
        if (!call.isRecorded()) {
            return ask(call);
        }
        if (noSuch(call)) {
            return call.answersBoolean() ? 0 : -1;
        }
        int answer = act(call);
        boolean refused = call.answersBoolean() ? answer == 0 : answer < 0;
        if (!refused) {
            journal.add(call);
            kept = Math.min(8, kept + 1);
        }
        return answer;
    }

    private boolean isClient(int client) {
        return client >= 0 && client <= 2;
    }

    private boolean isFile(int file) {
        return file >= 0 && file < paths.size();
    }

    private boolean noSuch(Call c) {
        if (!isClient(c.a())) {
            return true;
        }
        boolean list = c.c() == 0 || c.c() == 1;
        return switch (c.name()) {
            case "view" -> c.b() < 0 || c.b() > 3 || c.c() < -1 || c.c() >= lines.size();
            case "add", "edit", "remove", "reopen" -> !isFile(c.b()) || !list;
            case "store", "revert", "resolve" -> !isFile(c.b());
            case "join" -> !isFile(c.b()) || !isFile(c.c()) || c.d() < 0 || c.d() > 1;
            case "submit" -> c.b() != 0 && c.b() != 1;
            default -> false;
        };
    }

    private int act(Call c) {
        return switch (c.name()) {
            case "view" -> view(c.a(), c.b(), c.c());
            case "add" -> add(c.a(), c.b(), c.c(), c.d() == 1);
            case "edit" -> take("EDIT", c.a(), c.b(), c.c());
            case "remove" -> take("DELETE", c.a(), c.b(), c.c());
            case "store" -> store(c.a(), c.b(), c.c());
            case "reopen" -> reopen(c.a(), c.b(), c.c());
            case "revert" -> revert(c.a(), c.b());
            case "sync" -> sync(c.a(), c.b());
            case "join" -> join(c.a(), c.b(), c.c(), c.d());
            case "resolve" -> resolve(c.a(), c.b(), c.c());
            case "submit" -> submit(c.a(), c.b());
            default -> throw new IllegalArgumentException(c.name());
        };
    }

    private int ask(Call c) {
        return switch (c.name()) {
            case "write" -> write((char) c.a());
            case "file" -> file(taken());
            case "line" -> line(taken());
            case "where" -> where(c.a(), taken());
            case "crash" -> crash(c.a());
            case "journal" -> journal.size();
            case "changes" -> changes;
            case "joins" -> joins;
            case "head" -> isFile(c.a()) ? head(c.a()) : -1;
            case "revision" -> revision(c.a(), c.b(), c.c());
            case "joined" -> isFile(c.a()) && isFile(c.b()) && c.a() != c.b() ? joinedUpTo(c.a(), c.b()) : -1;
            default -> isClient(c.a()) && isFile(c.b()) ? askAt(c) : nothingAt(c.name());
        };
    }

    private int nothingAt(String name) {
        return name.equals("text") || name.equals("mapped") ? 0 : -1;
    }

    private int askAt(Call c) {
        String path = clientPath(c.a(), c.b());
        return switch (c.name()) {
            case "have" -> have(c.a(), c.b());
            case "text" -> texts.getOrDefault(List.of(c.a(), c.b()), 0);
            case "opened" -> opened(open(c.a(), c.b()), c.c());
            case "mapped" -> mapped(c.a(), c.b()) ? 1 : 0;
            case "place" -> {
                if (path == null || c.c() < -1 || c.c() >= path.length()) {
                    yield -1;
                }
                yield c.c() == -1 ? path.length() : path.charAt(c.c());
            }
            default -> throw new IllegalArgumentException(c.name());
        };
    }

    // ---- the buffer, files, lines, client paths

    private int write(char c) {
        if (buffer.length() == 32 || c < ' ' || c > '~') {
            return 0;
        }
        buffer += c;
        return 1;
    }

    private String taken() {
        String text = buffer;
        buffer = "";
        return text;
    }

    private int file(String path) {
        if (!path.matches("[a-z]+(/[a-z]+)*") || path.length() > 12) {
            return -1;
        }
        if (!paths.contains(path)) {
            if (paths.size() == 12) {
                return -2;
            }
            paths.add(path);
        }
        return paths.indexOf(path);
    }

    private int line(String line) {
        String side = "[a-z/*~]{1,12}";
        if (line.matches("-" + side)) {
            if (wildcards(line).length() > 2) {
                return -1;
            }
        } else if (line.matches(side + ">" + side)) {
            String left = wildcards(line.substring(0, line.indexOf('>')));
            String right = wildcards(line.substring(line.indexOf('>') + 1));
            if (left.length() > 2 || !left.equals(right)) {
                return -1;
            }
        } else {
            return -1;
        }
        if (lines.size() == 10) {
            return -2;
        }
        lines.add(line);
        return lines.size() - 1;
    }

    private static String wildcards(String side) {
        return side.replaceAll("[^*~]", "");
    }

    private int where(int client, String path) {
        if (isClient(client)) {
            for (int file = 0; file < paths.size(); file++) {
                if (mapped(client, file) && clientPath(client, file).equals(path)) {
                    return file;
                }
            }
        }
        return -1;
    }

    private boolean mapped(int client, int file) {
        String path = clientPath(client, file);
        for (int lower = 0; lower < file; lower++) {
            if (path != null && path.equals(clientPath(client, lower))) {
                return false;
            }
        }
        return path != null;
    }

    private String clientPath(int client, int file) {
        for (String line : views.get(client).descendingMap().values()) {
            boolean excludes = line.charAt(0) == '-';
            String left = excludes ? line.substring(1) : line.substring(0, line.indexOf('>'));
            String[] rows = FOUND.computeIfAbsent(left + " " + paths.get(file), k -> rows(left, paths.get(file)));
            if (rows.length != 0) {
                return excludes ? null : replaced(line.substring(line.indexOf('>') + 1), rows[0], rows[1]);
            }
        }
        return null;
    }

    /** The rows for the wildcards of LEFT, none if it does not fit: all parts of the path are tried. */
    private static String[] rows(String left, String path) {
        for (int length = 0; length <= path.length(); length++) {
            for (int start = 0; start + length <= path.length(); start++) {
                String first = path.substring(start, start + length);
                for (int from = 0; from <= path.length(); from++) {
                    for (int to = from; to <= path.length(); to++) {
                        String second = path.substring(from, to);
                        if (allowed(left, first, second) && replaced(left, first, second).equals(path)) {
                            return new String[] {first, second};
                        }
                    }
                }
            }
        }
        return new String[0];
    }

    private static boolean allowed(String left, String first, String second) {
        String kinds = wildcards(left);
        boolean firstFits = !kinds.startsWith("*") || !first.contains("/");
        boolean secondFits = kinds.length() < 2 || kinds.charAt(1) == '~' || !second.contains("/");
        return firstFits && secondFits;
    }

    private static String replaced(String side, String first, String second) {
        StringBuilder out = new StringBuilder();
        boolean seen = false;
        for (char c : side.toCharArray()) {
            if (c != '*' && c != '~') {
                out.append(c);
            } else {
                out.append(seen ? second : first);
                seen = true;
            }
        }
        return out.toString();
    }

    // ---- revisions and open files

    private List<Revision> of(int file) {
        return revisions.computeIfAbsent(file, f -> new ArrayList<>());
    }

    private int head(int file) {
        return of(file).size();
    }

    private boolean gone(int file) {
        return head(file) == 0 || of(file).get(head(file) - 1).deleted();
    }

    private boolean exclusive(int file) {
        return head(file) > 0 && of(file).get(head(file) - 1).exclusive();
    }

    private int content(int file, int number) {
        return number == 0 || of(file).get(number - 1).deleted() ? 0 : of(file).get(number - 1).content();
    }

    private int have(int client, int file) {
        return haves.getOrDefault(List.of(client, file), 0);
    }

    private Opened open(int client, int file) {
        return opens.get(List.of(client, file));
    }

    private int joinedUpTo(int from, int to) {
        return joined.getOrDefault(List.of(from, to), 0);
    }

    private int revision(int file, int number, int what) {
        if (!isFile(file) || number < 1 || number > head(file)) {
            return -1;
        }
        Revision r = of(file).get(number - 1);
        return switch (what) {
            case 0 -> r.change();
            case 1 -> content(file, number);
            case 2 -> r.deleted() ? 1 : 0;
            case 3 -> r.exclusive() ? 1 : 0;
            default -> -1;
        };
    }

    private int opened(Opened open, int what) {
        if (open == null) {
            return what == 0 ? 0 : -1;
        }
        return switch (what) {
            case 0 -> List.of("ADD", "EDIT", "DELETE").indexOf(open.kind) + 1;
            case 1 -> open.list;
            case 2 -> open.base;
            case 3 -> open.update == null ? 0 : open.update;
            case 4 -> open.join == null ? -1 : open.join.file();
            case 5 -> open.credit == null ? -1 : open.credit.file();
            default -> -1;
        };
    }

    private boolean hindered(int client, int file, boolean exclusiveAdd) {
        for (int other = 0; other < 3; other++) {
            Opened open = open(other, file);
            if (other == client || open == null) {
                continue;
            }
            if (exclusive(file) || exclusiveAdd || open.kind.equals("ADD") && open.exclusive) {
                return true;
            }
        }
        return false;
    }

    // ---- the calls that are recorded

    private int view(int client, int slot, int line) {
        if (line == -1) {
            views.get(client).remove(slot);
        } else {
            views.get(client).put(slot, lines.get(line));
        }
        return 1;
    }

    private int add(int client, int file, int list, boolean asExclusive) {
        if (!mapped(client, file)) {
            return -2;
        }
        if (!gone(file) || have(client, file) != 0) {
            return -3;
        }
        if (open(client, file) != null) {
            return -4;
        }
        if (hindered(client, file, asExclusive)) {
            return -5;
        }
        opens.put(List.of(client, file), new Opened("ADD", list, 0, asExclusive));
        texts.put(List.of(client, file), 0);
        return 0;
    }

    private int take(String kind, int client, int file, int list) {
        if (!mapped(client, file)) {
            return -2;
        }
        if (have(client, file) == 0) {
            return -3;
        }
        if (open(client, file) != null) {
            return -4;
        }
        if (hindered(client, file, false)) {
            return -5;
        }
        opens.put(List.of(client, file), new Opened(kind, list, have(client, file), false));
        if (kind.equals("DELETE")) {
            texts.put(List.of(client, file), 0);
        }
        return 0;
    }

    private int store(int client, int file, int content) {
        Opened open = open(client, file);
        if (open == null || open.kind.equals("DELETE")) {
            return 0;
        }
        texts.put(List.of(client, file), content);
        return 1;
    }

    private int reopen(int client, int file, int list) {
        Opened open = open(client, file);
        if (open == null) {
            return 0;
        }
        open.list = list;
        return 1;
    }

    private int revert(int client, int file) {
        if (opens.remove(List.of(client, file)) == null) {
            return 0;
        }
        texts.put(List.of(client, file), content(file, have(client, file)));
        return 1;
    }

    private int sync(int client, int change) {
        int count = 0;
        for (int file = 0; file < paths.size(); file++) {
            int wanted = 0;
            for (int number = 1; number <= head(file); number++) {
                if (of(file).get(number - 1).change() <= (change < 0 ? changes : change)) {
                    wanted = number;
                }
            }
            if (wanted != 0 && of(file).get(wanted - 1).deleted() || !mapped(client, file)) {
                wanted = 0;
            }
            Opened open = open(client, file);
            if (open == null && have(client, file) != wanted) {
                haves.put(List.of(client, file), wanted);
                texts.put(List.of(client, file), content(file, wanted));
                count++;
            }
            if (open != null && open.kind.equals("EDIT") && open.base < wanted
                    && (open.update == null || open.update != wanted)) {
                open.update = wanted;
                count++;
            }
        }
        return count;
    }

    private int join(int client, int from, int to, int list) {
        if (from == to) {
            return -1;
        }
        if (!mapped(client, to)) {
            return -2;
        }
        if (gone(from)) {
            return -3;
        }
        if (joinedUpTo(from, to) == head(from)) {
            return -4;
        }
        Opened open = open(client, to);
        if (open != null && (!open.kind.equals("EDIT") || open.join != null || open.credit != null)) {
            return -5;
        }
        if (open == null && have(client, to) != (gone(to) ? 0 : head(to))) {
            return -6;
        }
        boolean copy = open == null && gone(to);
        if (open == null && hindered(client, to, copy && exclusive(from))) {
            return -7;
        }
        if (copy) {
            open = new Opened("ADD", list, 0, exclusive(from));
            open.credit = new Credit(from, head(from), true);
            opens.put(List.of(client, to), open);
            texts.put(List.of(client, to), content(from, head(from)));
            return 1;
        }
        if (open == null) {
            open = new Opened("EDIT", list, have(client, to), false);
            opens.put(List.of(client, to), open);
        }
        open.join = new Owed(from, head(from));
        return 2;
    }

    private int resolve(int client, int file, int how) {
        if (how < 0 || how > 2) {
            return -1;
        }
        Opened open = open(client, file);
        if (open == null || open.update == null && open.join == null) {
            return -2;
        }
        boolean update = open.update != null;
        int theirs = update ? content(file, open.update) : content(open.join.file(), open.join.number());
        int base = update ? content(file, open.base)
            : content(open.join.file(), joinedUpTo(open.join.file(), file));
        int yours = texts.getOrDefault(List.of(client, file), 0);
        if (how == 0) {
            String merged = merge(hex(yours), hex(theirs), hex(base));
            if (merged == null) {
                return -3;
            }
            texts.put(List.of(client, file), (int) Long.parseLong(merged, 16));
        }
        if (how == 1) {
            texts.put(List.of(client, file), theirs);
        }
        if (update) {
            open.base = open.update;
            haves.put(List.of(client, file), open.update);
            open.update = null;
        } else {
            open.credit = new Credit(open.join.file(), open.join.number(), how == 1);
            open.join = null;
        }
        return 0;
    }

    private static String hex(int content) {
        return String.format("%08x", content);
    }

    private static String merge(String yours, String theirs, String base) {
        StringBuilder out = new StringBuilder();
        for (int k = 0; k < 8; k++) {
            char y = yours.charAt(k);
            char t = theirs.charAt(k);
            char b = base.charAt(k);
            if (t == b || t == y) {
                out.append(y);
            } else if (y == b) {
                out.append(t);
            } else {
                return null;
            }
        }
        return out.toString();
    }

    private int submit(int client, int list) {
        TreeMap<Integer, Opened> on = new TreeMap<>();
        for (int file = 0; file < paths.size(); file++) {
            if (open(client, file) != null && open(client, file).list == list) {
                on.put(file, open(client, file));
            }
        }
        if (on.isEmpty()) {
            return -2;
        }
        for (int file : on.keySet()) {
            if (on.get(file).kind.equals("ADD") ? !gone(file) : on.get(file).base != head(file)) {
                return -3;
            }
        }
        for (Opened open : on.values()) {
            if (open.update != null || open.join != null) {
                return -4;
            }
        }
        if (revisions.values().stream().mapToInt(List::size).sum() + on.size() > 48) {
            return -5;
        }
        changes++;
        for (int file : on.keySet()) {
            submitFile(client, file, on.get(file));
        }
        return changes;
    }

    private void submitFile(int client, int file, Opened open) {
        boolean deleted = open.kind.equals("DELETE");
        boolean asExclusive = open.kind.equals("ADD") ? open.exclusive : exclusive(file);
        of(file).add(new Revision(changes, texts.getOrDefault(List.of(client, file), 0), deleted, asExclusive));
        haves.put(List.of(client, file), deleted ? 0 : head(file));
        opens.remove(List.of(client, file));
        if (open.credit != null) {
            joins++;
            joined.merge(List.of(open.credit.file(), file), open.credit.number(), Math::max);
            if (open.credit.copy()) {
                joined.merge(List.of(file, open.credit.file()), head(file), Math::max);
            }
        }
    }

    // ---- crash

    private int crash(int lost) {
        if (lost < 0 || lost > 8) {
            return -1;
        }
        if (lost > kept) {
            return -2;
        }
        kept -= lost;
        for (int k = 0; k < lost; k++) {
            journal.remove(journal.size() - 1);
        }
        reset();
        for (Call call : journal) {
            act(call);
        }
        return journal.size();
    }
}
