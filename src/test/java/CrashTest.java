/** Promises 16 to 19: crash, and the counts of records, changes and joins around it. */
public final class CrashTest {
    private static final Check CHECK = new Check("CrashTest");

    public static void main(String[] args) {
        refusals();
        keptGrowsToEight();
        eachCallIsTakenBack();
        whatCanNotBeAsked();
        updatesAreTakenBack();
        filesLinesAndBufferStay();
        crashAfterCrash();
        lostRevisions();
        CHECK.end();
    }

    private static void refusals() {
        DepotServer x = Check.depot(1);
        CHECK.due("crash(-1)", x.crash(-1), -1);
        CHECK.due("crash(9)", x.crash(9), -1);
        CHECK.due("crash of the lowest int", x.crash(Integer.MIN_VALUE), -1);
        CHECK.due("crash(4) of three records", x.crash(4), -2);
        CHECK.due("refused crashes lose nothing", x.journal(), 3);
        CHECK.due("crash(0)", x.crash(0), 3);
        CHECK.due("crash(0) changes nothing", x.mapped(2, 0), true);
        CHECK.due("crash(3)", x.crash(3), 0);
        CHECK.due("mapped after it", x.mapped(0, 0), false);
        CHECK.due("crash(1) with nothing kept", x.crash(1), -2);
        CHECK.due("crash(0) with nothing kept", x.crash(0), 0);
    }

    private static void keptGrowsToEight() {
        DepotServer x = Check.depot(1);
        x.add(0, 0, 0, false);
        for (int k = 1; k <= 20; k++) {
            x.store(0, 0, k);
        }
        CHECK.due("journal", x.journal(), 24);
        CHECK.due("crash(8)", x.crash(8), 16);
        CHECK.due("text", x.text(0, 0), 12);
        CHECK.due("crash(1) beyond eight", x.crash(1), -2);
        x.store(0, 0, 100);
        CHECK.due("crash(2) with one kept", x.crash(2), -2);
        CHECK.due("crash(1) with one kept", x.crash(1), 16);
        CHECK.due("text", x.text(0, 0), 12);
        x.store(0, 0, 5);
        x.sync(9, 0);
        x.write('a');
        x.where(0);
        x.crash(0);
        CHECK.due("only records are kept", x.crash(2), -2);
    }

    private static void eachCallIsTakenBack() {
        DepotServer x = Check.depot(3);
        Check.put(x, 0, 0x10);
        Check.put(x, 1, 0x01);
        x.sync(1, -1);
        String before = Snapshot.of(x);
        x.view(1, 0, -1);
        back(x, "view", before);
        x.add(1, 2, 1, true);
        back(x, "add", before);
        x.edit(1, 0, 1);
        back(x, "edit", before);
        x.remove(1, 0, 1);
        back(x, "remove", before);
        x.sync(1, 1);
        back(x, "sync", before);
        x.join(1, 0, 2, 1);
        back(x, "join of a copy", before);
        x.join(1, 0, 1, 1);
        before = Snapshot.of(x);
        x.reopen(1, 1, 0);
        back(x, "reopen", before);
        x.store(1, 1, 99);
        back(x, "store", before);
        x.revert(1, 1);
        back(x, "revert", before);
        x.resolve(1, 1, 1);
        back(x, "resolve", before);
        x.resolve(1, 1, 1);
        before = Snapshot.of(x);
        CHECK.due("submit", x.submit(1, 1), 3);
        CHECK.due("joins after submit", x.joins(), 1);
        back(x, "submit", before);
        CHECK.due("joins after the crash", x.joins(), 0);
        CHECK.due("changes after the crash", x.changes(), 2);
        CHECK.due("submit after the crash", x.submit(1, 1), 3);
        CHECK.due("the copy was kept in the credit", x.joined(1, 0), 2);
    }

    private static void whatCanNotBeAsked() {
        DepotServer x = Check.depot(3);
        x.add(0, 0, 0, true);
        x.revert(0, 0);
        x.crash(1);
        CHECK.due("the add is exclusive again", x.add(1, 0, 0, false), -5);
        x.submit(0, 0);
        x.crash(1);
        x.submit(0, 0);
        CHECK.due("exclusive as it was opened", x.revision(0, 1, 3), 1);

        DepotServer y = Check.depot(3);
        Check.put(y, 0, 0x10);
        Check.put(y, 1, 0x20);
        y.join(0, 0, 1, 0);
        Check.change(y, 0, 0, 0x30);
        y.resolve(0, 1, 1);
        y.crash(1);
        CHECK.due("resolve again", y.resolve(0, 1, 1), 0);
        CHECK.due("theirs is the revision that was owed", y.text(0, 1), 0x10);
        y.submit(0, 0);
        y.crash(1);
        y.submit(0, 0);
        CHECK.due("the credit's revision", y.joined(0, 1), 1);
        CHECK.due("the credit was a copy", y.joined(1, 0), 2);
    }

    private static void updatesAreTakenBack() {
        DepotServer x = Check.depot(1);
        Check.put(x, 0, 0x10);
        x.sync(1, -1);
        x.edit(1, 0, 0);
        Check.change(x, 0, 0, 0x20);
        String before = Snapshot.of(x);
        x.sync(1, -1);
        back(x, "sync with an update", before);
        x.sync(1, -1);
        before = Snapshot.of(x);
        x.resolve(1, 0, 0);
        back(x, "resolve of an update", before);
        CHECK.due("it owes the update again", x.opened(1, 0, 3), 2);
        x.revert(1, 0);
        back(x, "revert of a file that owes", before);
    }

    private static void back(DepotServer x, String call, String before) {
        CHECK.due(call + " changes something", Snapshot.of(x).equals(before), false);
        x.crash(1);
        CHECK.due(call + " is taken back", Snapshot.of(x).equals(before), true);
    }

    private static void filesLinesAndBufferStay() {
        DepotServer x = Check.depot(1);
        x.view(0, 1, 0);
        CHECK.due("a new file", Check.file(x, "new"), 1);
        CHECK.due("a new line", Check.line(x, "new>old"), 1);
        x.view(0, 1, 1);
        x.add(0, 1, 0, false);
        Check.type(x, "ol");
        CHECK.due("crash", x.crash(3), 3);
        x.write('d');
        CHECK.due("the buffer is taken with a path that is not there", x.where(0), -1);
        Check.type(x, "ne");
        x.crash(1);
        x.write('w');
        CHECK.due("the file and the buffer stay", x.file(), 1);
        CHECK.due("head of it", x.head(1), 0);
        CHECK.due("it is not open", x.opened(0, 1, 0), 0);
        CHECK.due("the line stays", x.view(0, 1, 1), true);
        CHECK.due("the next line", Check.line(x, "a>b"), 2);
        Check.type(x, "ol");
        x.sync(0, -1);
        x.crash(1);
        x.write('d');
        CHECK.due("where by the line that stays", x.where(0), 1);
    }

    private static void crashAfterCrash() {
        DepotServer x = Check.depot(1);
        x.add(0, 0, 0, false);
        for (int k = 1; k <= 10; k++) {
            x.store(0, 0, k);
        }
        CHECK.due("crash(3)", x.crash(3), 11);
        CHECK.due("text", x.text(0, 0), 7);
        x.store(0, 0, 20);
        x.store(0, 0, 21);
        CHECK.due("crash(8) with seven kept", x.crash(8), -2);
        CHECK.due("crash(3)", x.crash(3), 10);
        CHECK.due("text", x.text(0, 0), 6);
        CHECK.due("crash(4)", x.crash(4), 6);
        CHECK.due("text", x.text(0, 0), 2);
        CHECK.due("crash(1)", x.crash(1), -2);
    }

    private static void lostRevisions() {
        DepotServer x = Check.depot(2);
        Check.put(x, 0, 5);
        Check.change(x, 0, 0, 6);
        x.sync(1, -1);
        x.crash(2);
        CHECK.due("head after a lost submit", x.head(0), 1);
        CHECK.due("the lost revision", x.revision(0, 2, 1), -1);
        CHECK.due("have of the other client", x.have(1, 0), 0);
        CHECK.due("the file is open again", x.opened(0, 0, 0), 2);
        CHECK.due("with its text", x.text(0, 0), 6);
        x.store(0, 0, 7);
        CHECK.due("the number of the lost change is given again", x.submit(0, 1), 2);
        CHECK.due("content", x.revision(0, 2, 1), 7);
        x.crash(1);
        x.revert(0, 0);
        CHECK.due("text of the revision that stayed", x.text(0, 0), 5);
    }
}
