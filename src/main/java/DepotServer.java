/**
 * A store of files with numbered revisions for three clients; the promises that it keeps are
 * those of DOC.md.
 */
public final class DepotServer {
    public static final int NONE = -1;

    private static final int CLIENTS = 3;
    private static final int FILES = 12;
    private static final int LINES = 10;
    private static final int SLOTS = 4;
    private static final int LISTS = 2;
    private static final int MOST_REVISIONS = 48;
    private static final int MOST_KEPT = 8;
    private static final int MOST_WILDCARDS = 2;

    private static final int BUFFER_SIZE = 32;
    private static final int NAME_SIZE = 12;
    // Eleven characters of a RIGHT with one wildcard, and a whole path in place of that.
    private static final int PLACE_SIZE = NAME_SIZE - 1 + NAME_SIZE;

    private static final int CLOSED = 0;
    private static final int ADD = 1;
    private static final int EDIT = 2;
    private static final int DELETE = 3;

    private static final int HOW_MERGE = 0;
    private static final int HOW_THEIRS = 1;
    private static final int HOW_YOURS = 2;

    private static final int DIGIT_BITS = 4;
    private static final int DIGIT_MASK = 15;

    private final Row buffer;
    private final Catalog catalog;
    private final Places places;
    private final State now;
    private final Journal records;

    public DepotServer() {
        buffer = new Row(BUFFER_SIZE);
        catalog = new Catalog();
        places = new Places();
        now = new State();
        records = new Journal();
    }

    // ---- the buffer, files, lines and views

    public boolean write(char c) {
        return c >= 32 && c <= 126 && buffer.append(c);
    }

    public int file() {
        int answer = catalog.fileFor(buffer);
        buffer.clear();
        return answer;
    }

    public int line() {
        int answer = catalog.newLine(buffer);
        buffer.clear();
        return answer;
    }

    public boolean view(int client, int slot, int line) {
        if (!isClient(client) || slot < 0 || slot >= SLOTS) {
            return false;
        }
        if (line != NONE && !catalog.hasLine(line)) {
            return false;
        }
        records.note(now);
        now.slots[client * SLOTS + slot] = line;
        return true;
    }

    public boolean mapped(int client, int file) {
        return isClient(client) && isFile(file) && isMapped(client, file);
    }

    public int place(int client, int file, int k) {
        if (!isClient(client) || !isFile(file)) {
            return NONE;
        }
        places.layOne(now, client, catalog, file);
        if (!places.there[file]) {
            return NONE;
        }
        Row row = places.rows[file];
        if (k == -1) {
            return row.size();
        }
        return k >= 0 && k < row.size() ? row.at(k) : NONE;
    }

    public int where(int client) {
        int answer = isClient(client) ? fileAt(client) : NONE;
        buffer.clear();
        return answer;
    }

    // ---- opening files and working on them

    public int add(int client, int file, int list, boolean exclusive) {
        if (!isClient(client) || !isFile(file) || !isList(list)) {
            return -1;
        }
        if (!isMapped(client, file)) {
            return -2;
        }
        Work work = now.work(client, file);
        if (!isGone(file) || work.have != 0) {
            return -3;
        }
        if (work.isOpen()) {
            return -4;
        }
        if (isHindered(client, file, exclusive)) {
            return -5;
        }
        records.note(now);
        work.openForAdd(list, exclusive, 0);
        return 0;
    }

    public int edit(int client, int file, int list) {
        return openHeldFor(EDIT, client, file, list);
    }

    public int remove(int client, int file, int list) {
        return openHeldFor(DELETE, client, file, list);
    }

    public boolean store(int client, int file, int content) {
        if (!isOpenAt(client, file)) {
            return false;
        }
        Work work = now.work(client, file);
        if (work.kind == DELETE) {
            return false;
        }
        records.note(now);
        work.text = content;
        return true;
    }

    public boolean reopen(int client, int file, int list) {
        if (!isOpenAt(client, file) || !isList(list)) {
            return false;
        }
        records.note(now);
        now.work(client, file).list = list;
        return true;
    }

    public boolean revert(int client, int file) {
        if (!isOpenAt(client, file)) {
            return false;
        }
        records.note(now);
        Work work = now.work(client, file);
        work.close();
        work.text = contentOf(file, work.have);
        return true;
    }

    // ---- bringing in what others did

    public int sync(int client, int change) {
        if (!isClient(client)) {
            return -1;
        }
        records.note(now);
        places.layAll(now, client, catalog);
        int upTo = change < 0 ? now.changes : change;
        int brought = 0;
        for (int file = 0; file < catalog.files; file++) {
            if (bring(now.work(client, file), file, wanted(file, upTo))) {
                brought++;
            }
        }
        return brought;
    }

    public int join(int client, int from, int to, int list) {
        if (!isClient(client) || !isFile(from) || !isFile(to) || !isList(list) || from == to) {
            return -1;
        }
        int refusal = refusalToJoin(client, from, to);
        if (refusal != 0) {
            return refusal;
        }
        records.note(now);
        Work work = now.work(client, to);
        Revision source = now.latest[from];
        if (!work.isOpen() && isGone(to)) {
            work.openForAdd(list, source.exclusive, source.content);
            work.giveCredit(from, source.number, true);
            return 1;
        }
        if (!work.isOpen()) {
            work.openHeld(EDIT, list);
        }
        work.joinFile = from;
        work.joinRevision = source.number;
        return 2;
    }

    public int resolve(int client, int file, int how) {
        if (!isClient(client) || !isFile(file) || how < HOW_MERGE || how > HOW_YOURS) {
            return -1;
        }
        Work work = now.work(client, file);
        if (!work.isOpen() || !work.owes()) {
            return -2;
        }
        int theirs = theirContent(work, file);
        int base = mergeBase(work, file);
        if (how == HOW_MERGE && clash(work.text, theirs, base)) {
            return -3;
        }
        records.note(now);
        if (how == HOW_MERGE) {
            work.text = merged(work.text, theirs, base);
        } else if (how == HOW_THEIRS) {
            work.text = theirs;
        }
        work.settle(how == HOW_THEIRS);
        return 0;
    }

    // ---- submitting and crashing

    public int submit(int client, int list) {
        if (!isClient(client) || !isList(list)) {
            return -1;
        }
        int refusal = refusalToSubmit(client, list);
        if (refusal != 0) {
            return refusal;
        }
        records.note(now);
        now.changes++;
        for (int file = 0; file < catalog.files; file++) {
            Work work = now.work(client, file);
            if (work.isOn(list)) {
                submitFile(work, file);
            }
        }
        return now.changes;
    }

    public int crash(int lost) {
        if (lost < 0 || lost > MOST_KEPT) {
            return -1;
        }
        if (lost > records.kept) {
            return -2;
        }
        records.lose(lost, now);
        return records.count;
    }

    // ---- questions

    public int journal() {
        return records.count;
    }

    public int changes() {
        return now.changes;
    }

    public int joins() {
        return now.joins;
    }

    public int head(int file) {
        return isFile(file) ? now.latest[file].number : NONE;
    }

    public int revision(int file, int number, int what) {
        // Revision 0 stands for "none" inside; it is no revision to ask about.
        if (!isFile(file) || number < 1) {
            return NONE;
        }
        Revision found = now.latest[file].find(number);
        return found == null ? NONE : found.tell(what);
    }

    public int have(int client, int file) {
        return isClient(client) && isFile(file) ? now.work(client, file).have : NONE;
    }

    public int text(int client, int file) {
        return isClient(client) && isFile(file) ? now.work(client, file).text : 0;
    }

    public int opened(int client, int file, int what) {
        return isClient(client) && isFile(file) ? now.work(client, file).tell(what) : NONE;
    }

    public int joined(int from, int to) {
        return isFile(from) && isFile(to) && from != to ? now.joinedUpTo(from, to) : NONE;
    }

    // ---- what several calls ask

    private static boolean isClient(int client) {
        return client >= 0 && client < CLIENTS;
    }

    private static boolean isList(int list) {
        return list >= 0 && list < LISTS;
    }

    private boolean isFile(int file) {
        return file >= 0 && file < catalog.files;
    }

    private boolean isMapped(int client, int file) {
        places.layAll(now, client, catalog);
        return places.isFirst(file);
    }

    private boolean isOpenAt(int client, int file) {
        return isClient(client) && isFile(file) && now.work(client, file).isOpen();
    }

    private boolean isGone(int file) {
        return now.latest[file].deleted;
    }

    private boolean isHindered(int client, int file, boolean exclusiveAdd) {
        for (int other = 0; other < CLIENTS; other++) {
            Work work = now.work(other, file);
            if (other != client && work.isOpen()
                    && (exclusiveAdd || work.exclusive || now.latest[file].exclusive)) {
                return true;
            }
        }
        return false;
    }

    private int contentOf(int file, int number) {
        Revision found = now.latest[file].find(number);
        return found == null ? 0 : found.content;
    }

    private int fileAt(int client) {
        places.layAll(now, client, catalog);
        for (int file = 0; file < catalog.files; file++) {
            // The lowest file with a client path is the one of its files that is mapped.
            if (places.there[file] && places.rows[file].same(buffer)) {
                return file;
            }
        }
        return NONE;
    }

    // ---- refusals: 0 if there is none

    private int refusalToJoin(int client, int from, int to) {
        if (!isMapped(client, to)) {
            return -2;
        }
        Revision source = now.latest[from];
        if (isGone(from)) {
            return -3;
        }
        if (now.joinedUpTo(from, to) == source.number) {
            return -4;
        }
        Work work = now.work(client, to);
        if (work.isOpen()) {
            return work.kind == EDIT && work.joinFile == NONE && work.creditFile == NONE ? 0 : -5;
        }
        int due = isGone(to) ? 0 : now.latest[to].number;
        if (work.have != due) {
            return -6;
        }
        return isHindered(client, to, isGone(to) && source.exclusive) ? -7 : 0;
    }

    private int refusalToSubmit(int client, int list) {
        int files = 0;
        boolean outdated = false;
        boolean owing = false;
        for (int file = 0; file < catalog.files; file++) {
            Work work = now.work(client, file);
            if (work.isOn(list)) {
                files++;
                outdated = outdated || isOutdated(work, file);
                owing = owing || work.owes();
            }
        }
        if (files == 0) {
            return -2;
        }
        if (outdated) {
            return -3;
        }
        if (owing) {
            return -4;
        }
        return now.revisions + files > MOST_REVISIONS ? -5 : 0;
    }

    private boolean isOutdated(Work work, int file) {
        return work.kind == ADD ? !isGone(file) : work.base != now.latest[file].number;
    }

    // ---- parts of edit, remove, sync, resolve and submit

    private int openHeldFor(int kind, int client, int file, int list) {
        if (!isClient(client) || !isFile(file) || !isList(list)) {
            return -1;
        }
        if (!isMapped(client, file)) {
            return -2;
        }
        Work work = now.work(client, file);
        if (work.have == 0) {
            return -3;
        }
        if (work.isOpen()) {
            return -4;
        }
        if (isHindered(client, file, false)) {
            return -5;
        }
        records.note(now);
        work.openHeld(kind, list);
        return 0;
    }

    /** The revision that a sync up to a change wants; the places of the client lie ready. */
    private int wanted(int file, int upTo) {
        if (!places.isFirst(file)) {
            return 0;
        }
        Revision found = now.latest[file].findBy(upTo);
        return found == null || found.deleted ? 0 : found.number;
    }

    private boolean bring(Work work, int file, int wanted) {
        if (!work.isOpen() && work.have != wanted) {
            work.have = wanted;
            work.text = contentOf(file, wanted);
            return true;
        }
        if (work.kind == EDIT && work.base < wanted && work.update != wanted) {
            work.update = wanted;
            return true;
        }
        return false;
    }

    private int theirContent(Work work, int file) {
        return work.update != 0
                ? contentOf(file, work.update)
                : contentOf(work.joinFile, work.joinRevision);
    }

    private int mergeBase(Work work, int file) {
        return work.update != 0
                ? contentOf(file, work.base)
                : contentOf(work.joinFile, now.joinedUpTo(work.joinFile, file));
    }

    private static boolean clash(int yours, int theirs, int base) {
        for (int shift = 0; shift < 32; shift += DIGIT_BITS) {
            int y = yours >>> shift & DIGIT_MASK;
            int t = theirs >>> shift & DIGIT_MASK;
            int b = base >>> shift & DIGIT_MASK;
            if (t != b && t != y && y != b) {
                return true;
            }
        }
        return false;
    }

    /** The merge of contents that do not clash. */
    private static int merged(int yours, int theirs, int base) {
        int result = 0;
        for (int shift = 0; shift < 32; shift += DIGIT_BITS) {
            int mask = DIGIT_MASK << shift;
            boolean takeTheirs = (yours & mask) == (base & mask);
            result |= (takeTheirs ? theirs : yours) & mask;
        }
        return result;
    }

    private void submitFile(Work work, int file) {
        Revision last = now.latest[file];
        boolean deleted = work.kind == DELETE;
        boolean exclusive = work.kind == ADD ? work.exclusive : last.exclusive;
        Revision made = new Revision(last, now.changes, work.text, deleted, exclusive);
        now.latest[file] = made;
        now.revisions++;
        work.have = deleted ? 0 : made.number;
        if (work.creditFile != NONE) {
            now.joins++;
            now.raiseJoined(work.creditFile, file, work.creditRevision);
            if (work.creditCopy) {
                now.raiseJoined(file, work.creditFile, made.number);
            }
        }
        work.close();
    }

    /** A row of characters with a fixed room, made once and filled again and again. */
    private static final class Row {
        private final char[] chars;
        private int length;

        Row(int room) {
            chars = new char[room];
        }

        int size() {
            return length;
        }

        /** Character k; beyond the end one with code 0, which equals none that was written. */
        char at(int k) {
            return k >= 0 && k < length ? chars[k] : (char) 0;
        }

        boolean append(char c) {
            if (length >= chars.length) {
                return false;
            }
            chars[length] = c;
            length++;
            return true;
        }

        void clear() {
            length = 0;
        }

        void appendPart(Row other, int start, int end) {
            for (int k = start; k < end; k++) {
                append(other.at(k));
            }
        }

        boolean same(Row other) {
            if (length != other.length) {
                return false;
            }
            for (int k = 0; k < length; k++) {
                if (chars[k] != other.chars[k]) {
                    return false;
                }
            }
            return true;
        }
    }

    /** A mapping line. */
    private static final class Line {
        final Row left = new Row(NAME_SIZE);
        final Row right = new Row(NAME_SIZE);
        boolean excludes;

        static boolean isWildcard(char c) {
            return c == '*' || c == '~';
        }

        static boolean isLine(Row written) {
            int size = written.size();
            if (written.at(0) == '-') {
                return isSide(written, 1, size);
            }
            int middle = middleOf(written);
            return isSide(written, 0, middle) && isSide(written, middle + 1, size)
                    && haveSameWildcards(written, middle);
        }

        void fill(Row written) {
            excludes = written.at(0) == '-';
            int middle = middleOf(written);
            left.appendPart(written, excludes ? 1 : 0, middle);
            right.appendPart(written, middle + 1, written.size());
        }

        /** Where the > stands; the end if there is none. */
        private static int middleOf(Row written) {
            int k = 0;
            while (k < written.size() && written.at(k) != '>') {
                k++;
            }
            return k;
        }

        private static boolean isSide(Row written, int start, int end) {
            if (end - start < 1 || end - start > NAME_SIZE) {
                return false;
            }
            int wildcards = 0;
            for (int k = start; k < end; k++) {
                char c = written.at(k);
                if (isWildcard(c)) {
                    wildcards++;
                } else if (!Catalog.isPathCharacter(c)) {
                    return false;
                }
            }
            return wildcards <= MOST_WILDCARDS;
        }

        /** For two sides of which each has no more wildcards than it may. */
        private static boolean haveSameWildcards(Row written, int middle) {
            for (int n = 0; n < MOST_WILDCARDS; n++) {
                char inLeft = wildcardOf(written, 0, middle, n);
                char inRight = wildcardOf(written, middle + 1, written.size(), n);
                if (inLeft != inRight) {
                    return false;
                }
            }
            return true;
        }

        /** Wildcard n (from 0) of a part; the character with code 0 if it has not so many. */
        private static char wildcardOf(Row written, int start, int end, int n) {
            int seen = 0;
            for (int k = start; k < end; k++) {
                if (isWildcard(written.at(k))) {
                    if (seen == n) {
                        return written.at(k);
                    }
                    seen++;
                }
            }
            return (char) 0;
        }
    }

    /** The files' paths and the lines: what stays for ever, so that no crash takes it back. */
    private static final class Catalog {
        final Row[] paths = new Row[FILES];
        final Line[] lines = new Line[LINES];
        int files;
        int lineCount;

        Catalog() {
            for (int file = 0; file < FILES; file++) {
                paths[file] = new Row(NAME_SIZE);
            }
            for (int line = 0; line < LINES; line++) {
                lines[line] = new Line();
            }
        }

        static boolean isPathCharacter(char c) {
            return c >= 'a' && c <= 'z' || c == '/';
        }

        boolean hasLine(int line) {
            return line >= 0 && line < lineCount;
        }

        int fileFor(Row written) {
            if (!isPath(written)) {
                return -1;
            }
            for (int file = 0; file < files; file++) {
                if (paths[file].same(written)) {
                    return file;
                }
            }
            if (files == FILES) {
                return -2;
            }
            paths[files].appendPart(written, 0, written.size());
            files++;
            return files - 1;
        }

        int newLine(Row written) {
            if (!Line.isLine(written)) {
                return -1;
            }
            if (lineCount == LINES) {
                return -2;
            }
            lines[lineCount].fill(written);
            lineCount++;
            return lineCount - 1;
        }

        private static boolean isPath(Row written) {
            if (written.size() > NAME_SIZE) {
                return false;
            }
            // The start and the end of a path count as a /, as none may stand beside them.
            boolean afterSlash = true;
            for (int k = 0; k < written.size(); k++) {
                char c = written.at(k);
                if (!isPathCharacter(c) || afterSlash && c == '/') {
                    return false;
                }
                afterSlash = c == '/';
            }
            return !afterSlash;
        }
    }

    /**
     * The client paths of one client's files. They are laid anew for each question, as views,
     * files and crashes would all make kept ones stale.
     */
    private static final class Places {
        final Row[] rows = new Row[FILES];
        final boolean[] there = new boolean[FILES];
        private final int[] starts = new int[MOST_WILDCARDS];
        private final int[] ends = new int[MOST_WILDCARDS];

        Places() {
            for (int file = 0; file < FILES; file++) {
                rows[file] = new Row(PLACE_SIZE);
            }
        }

        void layAll(State now, int client, Catalog catalog) {
            for (int file = 0; file < catalog.files; file++) {
                layOne(now, client, catalog, file);
            }
        }

        void layOne(State now, int client, Catalog catalog, int file) {
            rows[file].clear();
            there[file] = false;
            Row path = catalog.paths[file];
            for (int slot = SLOTS - 1; slot >= 0; slot--) {
                int number = now.slots[client * SLOTS + slot];
                if (catalog.hasLine(number) && fits(catalog.lines[number].left, 0, path, 0, 0)) {
                    layBy(catalog.lines[number], path, file);
                    return;
                }
            }
        }

        /** Whether a file has a client path that no file with a lower number has. */
        boolean isFirst(int file) {
            if (!there[file]) {
                return false;
            }
            for (int lower = 0; lower < file; lower++) {
                if (there[lower] && rows[lower].same(rows[file])) {
                    return false;
                }
            }
            return true;
        }

        /**
         * Whether the rest of LEFT can become the rest of the path; 'seen' wildcards stand before
         * it. Rows are tried from the shortest on, so the first way found is the one that counts.
         */
        private boolean fits(Row left, int leftStart, Row path, int pathStart, int seen) {
            int l = leftStart;
            int p = pathStart;
            while (l < left.size() && !Line.isWildcard(left.at(l))) {
                if (left.at(l) != path.at(p)) {
                    return false;
                }
                l++;
                p++;
            }
            if (l == left.size()) {
                return p == path.size();
            }
            if (seen >= MOST_WILDCARDS) {
                return false;
            }
            starts[seen] = p;
            for (int end = p; end <= path.size(); end++) {
                if (end > p && left.at(l) == '*' && path.at(end - 1) == '/') {
                    return false;
                }
                ends[seen] = end;
                if (fits(left, l + 1, path, end, seen + 1)) {
                    return true;
                }
            }
            return false;
        }

        private void layBy(Line line, Row path, int file) {
            there[file] = !line.excludes;
            int seen = 0;
            for (int k = 0; k < line.right.size(); k++) {
                char c = line.right.at(k);
                if (Line.isWildcard(c) && seen < MOST_WILDCARDS) {
                    rows[file].appendPart(path, starts[seen], ends[seen]);
                    seen++;
                } else {
                    rows[file].append(c);
                }
            }
        }
    }

    /**
     * A revision and, behind it, the earlier ones of its file. It never changes, so that a state
     * kept for a crash holds just the latest one of each file.
     */
    private static final class Revision {
        final int number;
        final int change;
        final int content;
        final boolean deleted;
        final boolean exclusive;
        private final Revision previous;

        /** Revision 0: as good as deleted, for a file without revisions is gone. */
        Revision() {
            number = 0;
            change = 0;
            content = 0;
            deleted = true;
            exclusive = false;
            previous = null;
        }

        Revision(Revision last, int change, int text, boolean deleted, boolean exclusive) {
            number = last.number + 1;
            this.change = change;
            content = deleted ? 0 : text;
            this.deleted = deleted;
            this.exclusive = exclusive;
            previous = last;
        }

        Revision find(int wantedNumber) {
            for (Revision r = this; r != null; r = r.previous) {
                if (r.number == wantedNumber) {
                    return r;
                }
            }
            return null;
        }

        /** The latest one whose change is not above this. */
        Revision findBy(int upTo) {
            for (Revision r = this; r != null; r = r.previous) {
                if (r.change <= upTo) {
                    return r;
                }
            }
            return null;
        }

        int tell(int what) {
            switch (what) {
                case 0:
                    return change;
                case 1:
                    return content;
                case 2:
                    return deleted ? 1 : 0;
                case 3:
                    return exclusive ? 1 : 0;
                default:
                    return NONE;
            }
        }
    }

    /** A file at a client. */
    private static final class Work {
        int have;
        int text;
        int kind = CLOSED;
        int list;
        int base;
        /** Whether it is open for ADD as exclusive. */
        boolean exclusive;
        int update;
        int joinFile = NONE;
        int joinRevision;
        int creditFile = NONE;
        int creditRevision;
        boolean creditCopy;

        boolean isOpen() {
            return kind != CLOSED;
        }

        boolean isOn(int someList) {
            return isOpen() && list == someList;
        }

        boolean owes() {
            return update != 0 || joinFile != NONE;
        }

        void openForAdd(int onList, boolean asExclusive, int content) {
            kind = ADD;
            list = onList;
            base = 0;
            exclusive = asExclusive;
            text = content;
        }

        /** Opens the revision that the client has, for EDIT or DELETE. */
        void openHeld(int toKind, int onList) {
            kind = toKind;
            list = onList;
            base = have;
            if (toKind == DELETE) {
                text = 0;
            }
        }

        void giveCredit(int file, int number, boolean copy) {
            creditFile = file;
            creditRevision = number;
            creditCopy = copy;
        }

        /** What is owed first, the update or else the join, is owed no more. */
        void settle(boolean copy) {
            if (update != 0) {
                base = update;
                have = update;
                update = 0;
            } else {
                giveCredit(joinFile, joinRevision, copy);
                joinFile = NONE;
                joinRevision = 0;
            }
        }

        /** All that only an open file has goes, so that opening it again starts with nothing. */
        void close() {
            kind = CLOSED;
            list = 0;
            base = 0;
            exclusive = false;
            update = 0;
            joinFile = NONE;
            joinRevision = 0;
            giveCredit(NONE, 0, false);
        }

        int tell(int what) {
            if (what == 0) {
                return kind;
            }
            if (!isOpen()) {
                return NONE;
            }
            switch (what) {
                case 1:
                    return list;
                case 2:
                    return base;
                case 3:
                    return update;
                case 4:
                    return joinFile;
                case 5:
                    return creditFile;
                default:
                    return NONE;
            }
        }

        void copyFrom(Work other) {
            have = other.have;
            text = other.text;
            kind = other.kind;
            list = other.list;
            base = other.base;
            exclusive = other.exclusive;
            update = other.update;
            joinFile = other.joinFile;
            joinRevision = other.joinRevision;
            giveCredit(other.creditFile, other.creditRevision, other.creditCopy);
        }
    }

    /** All that a crash takes back. */
    private static final class State {
        final int[] slots = new int[CLIENTS * SLOTS];
        final Revision[] latest = new Revision[FILES];
        int revisions;
        int changes;
        int joins;
        private final Work[] works = new Work[CLIENTS * FILES];
        private final int[] joinedRows = new int[FILES * FILES];

        State() {
            for (int k = 0; k < slots.length; k++) {
                slots[k] = NONE;
            }
            Revision none = new Revision();
            for (int file = 0; file < FILES; file++) {
                latest[file] = none;
            }
            for (int k = 0; k < works.length; k++) {
                works[k] = new Work();
            }
        }

        Work work(int client, int file) {
            return works[client * FILES + file];
        }

        int joinedUpTo(int from, int to) {
            return joinedRows[from * FILES + to];
        }

        void raiseJoined(int from, int to, int number) {
            int k = from * FILES + to;
            joinedRows[k] = Math.max(joinedRows[k], number);
        }

        void copyFrom(State other) {
            System.arraycopy(other.slots, 0, slots, 0, slots.length);
            System.arraycopy(other.joinedRows, 0, joinedRows, 0, joinedRows.length);
            for (int file = 0; file < FILES; file++) {
                latest[file] = other.latest[file];
            }
            for (int k = 0; k < works.length; k++) {
                works[k].copyFrom(other.works[k]);
            }
            revisions = other.revisions;
            changes = other.changes;
            joins = other.joins;
        }
    }

    /** The count of records, with the state before each of those that can be lost. */
    private static final class Journal {
        int count;
        int kept;
        private final State[] before = new State[MOST_KEPT];

        Journal() {
            for (int k = 0; k < MOST_KEPT; k++) {
                before[k] = new State();
            }
        }

        /** To be called when nothing refuses a call any more and before it changes anything. */
        void note(State now) {
            before[count % MOST_KEPT].copyFrom(now);
            count++;
            kept = Math.min(kept + 1, MOST_KEPT);
        }

        void lose(int lost, State now) {
            if (lost == 0) {
                return;
            }
            count -= lost;
            kept -= lost;
            now.copyFrom(before[count % MOST_KEPT]);
        }
    }
}
