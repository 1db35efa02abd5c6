/** Promise 12, and resolve (14) of the updates that it makes a file owe. */
public final class SyncTest {
    private static final Check CHECK = new Check("SyncTest");

    public static void main(String[] args) {
        noSuch();
        toChanges();
        unmapped();
        openFiles();
        resolveUpdate();
        merge();
        CHECK.end();
    }

    private static void noSuch() {
        DepotServer x = Check.depot(1);
        CHECK.due("sync(-1, 0)", x.sync(-1, 0), -1);
        CHECK.due("sync(3, 0)", x.sync(3, 0), -1);
        CHECK.due("refused syncs are no records", x.journal(), 3);
        CHECK.due("sync with nothing to bring", x.sync(0, -1), 0);
        CHECK.due("it is a record all the same", x.journal(), 4);
    }

    private static void toChanges() {
        DepotServer x = Check.depot(3);
        Check.put(x, 0, 10);
        Check.put(x, 1, 20);
        Check.change(x, 0, 0, 11);
        Check.drop(x, 0, 1);
        CHECK.due("sync to the latest", x.sync(1, -1), 1);
        holds(x, 1, 0, 2, 11);
        holds(x, 1, 1, 0, 0);
        CHECK.due("sync again", x.sync(1, -1), 0);
        CHECK.due("sync to 3", x.sync(1, 3), 1);
        holds(x, 1, 0, 2, 11);
        holds(x, 1, 1, 1, 20);
        CHECK.due("sync to 2", x.sync(1, 2), 1);
        holds(x, 1, 0, 1, 10);
        CHECK.due("sync to 1", x.sync(1, 1), 1);
        holds(x, 1, 0, 1, 10);
        holds(x, 1, 1, 0, 0);
        CHECK.due("sync to 0", x.sync(1, 0), 1);
        holds(x, 1, 0, 0, 0);
        CHECK.due("sync above the latest", x.sync(1, 99), 1);
        holds(x, 1, 0, 2, 11);
        CHECK.due("sync to 3", x.sync(1, 3), 1);
        CHECK.due("sync to the lowest int", x.sync(1, Integer.MIN_VALUE), 1);
        holds(x, 1, 1, 0, 0);
        CHECK.due("another client is left alone", x.have(2, 0), 0);
    }

    private static void unmapped() {
        DepotServer x = Check.depot(2);
        Check.put(x, 0, 10);
        Check.put(x, 1, 20);
        Check.line(x, "-b");
        Check.line(x, "b>a");
        x.view(1, 1, 2);
        CHECK.due("sync with two files at one client path", x.sync(1, -1), 1);
        holds(x, 1, 0, 1, 10);
        holds(x, 1, 1, 0, 0);
        x.view(1, 1, -1);
        CHECK.due("sync when both are mapped", x.sync(1, -1), 1);
        holds(x, 1, 1, 1, 20);
        x.edit(1, 0, 0);
        x.view(1, 2, 1);
        x.view(1, 0, -1);
        CHECK.due("sync takes away what is not mapped", x.sync(1, -1), 1);
        holds(x, 1, 1, 0, 0);
        holds(x, 1, 0, 1, 10);
        Check.change(x, 0, 0, 11);
        CHECK.due("an open file that is not mapped owes nothing", x.sync(1, -1), 0);
        CHECK.due("the update", x.opened(1, 0, 3), 0);
    }

    private static void openFiles() {
        DepotServer x = Check.depot(3);
        Check.put(x, 0, 10);
        x.sync(1, -1);
        x.edit(1, 0, 0);
        x.store(1, 0, 99);
        x.add(1, 2, 0, false);
        CHECK.due("base is wanted", x.sync(1, -1), 0);
        Check.change(x, 0, 0, 11);
        Check.change(x, 0, 0, 12);
        Check.put(x, 2, 30);
        CHECK.due("the file owes an update", x.sync(1, 2), 1);
        CHECK.due("the update", x.opened(1, 0, 3), 2);
        CHECK.due("it owes that already", x.sync(1, 2), 0);
        CHECK.due("a file open for ADD owes no update", x.sync(1, -1), 1);
        CHECK.due("the update", x.opened(1, 0, 3), 3);
        CHECK.due("an earlier update", x.sync(1, 2), 1);
        CHECK.due("the update", x.opened(1, 0, 3), 2);
        CHECK.due("base is not less than wanted", x.sync(1, 1), 0);
        CHECK.due("the update stays", x.opened(1, 0, 3), 2);
        CHECK.due("text stays", x.text(1, 0), 99);
        CHECK.due("have stays", x.have(1, 0), 1);
        x.revert(1, 0);
        x.remove(1, 0, 0);
        CHECK.due("a file open for DELETE owes no update", x.sync(1, -1), 0);
        CHECK.due("the update", x.opened(1, 0, 3), 0);
        Check.drop(x, 0, 0);
        x.revert(1, 0);
        x.edit(1, 0, 0);
        CHECK.due("a deleted revision is not owed", x.sync(1, -1), 0);
        CHECK.due("submit of an edit of a deleted file", x.submit(1, 0), -3);
    }

    private static void resolveUpdate() {
        DepotServer x = Check.depot(2);
        Check.put(x, 0, 0x11111111);
        x.sync(1, -1);
        x.edit(1, 0, 0);
        CHECK.due("resolve when nothing is owed", x.resolve(1, 0, 0), -2);
        CHECK.due("resolve when not open", x.resolve(0, 0, 0), -2);
        x.store(1, 0, 0x21111111);
        Check.change(x, 0, 0, 0x11111113);
        x.sync(1, -1);
        int before = x.journal();
        int[][] wrong = {{-1, 0, 0}, {3, 0, 0}, {1, -1, 0}, {1, 2, 0}, {1, 0, -1}, {1, 0, 3}};
        for (int[] w : wrong) {
            CHECK.due("resolve(" + w[0] + ", " + w[1] + ", " + w[2] + ")", x.resolve(w[0], w[1], w[2]), -1);
        }
        CHECK.due("how is looked at before the file", x.resolve(0, 1, 3), -1);
        CHECK.due("refused resolves are no records", x.journal(), before);
        CHECK.due("submit with base behind comes before owing", x.submit(1, 0), -3);
        CHECK.due("resolve 0", x.resolve(1, 0, 0), 0);
        CHECK.due("resolve is a record", x.journal(), before + 1);
        CHECK.due("text", x.text(1, 0), 0x21111113);
        CHECK.due("base", x.opened(1, 0, 2), 2);
        CHECK.due("have", x.have(1, 0), 2);
        CHECK.due("owes", x.opened(1, 0, 3), 0);
        CHECK.due("credit", x.opened(1, 0, 5), -1);
        CHECK.due("resolve again", x.resolve(1, 0, 0), -2);
        Check.change(x, 0, 0, 0x51111113);
        x.sync(1, -1);
        CHECK.due("resolve of a clash", x.resolve(1, 0, 0), -3);
        CHECK.due("it still owes", x.opened(1, 0, 3), 3);
        CHECK.due("text", x.text(1, 0), 0x21111113);
        CHECK.due("resolve 2", x.resolve(1, 0, 2), 0);
        CHECK.due("text stays", x.text(1, 0), 0x21111113);
        CHECK.due("base", x.opened(1, 0, 2), 3);
        Check.change(x, 0, 0, 0x61111113);
        x.sync(1, -1);
        CHECK.due("resolve 1", x.resolve(1, 0, 1), 0);
        CHECK.due("text is theirs", x.text(1, 0), 0x61111113);
        CHECK.due("have", x.have(1, 0), 4);
        CHECK.due("submit", x.submit(1, 0), 5);
        CHECK.due("an update is no join", x.joins(), 0);
    }

    private static void merge() {
        // base, yours, theirs, the merge
        int[][] rows = {
            {0x00000000, 0x10203040, 0x01020304, 0x11223344},
            {0x11111111, 0x11111111, 0x22222222, 0x22222222},
            {0x11111111, 0x22222222, 0x11111111, 0x22222222},
            {0x11111111, 0x2222222F, 0x2222222F, 0x2222222F},
            {0xFFFFFFFF, 0x0FFFFFFF, 0xFFFFFFF0, 0x0FFFFFF0},
            {0x12345678, 0x82345678, 0x12345679, 0x82345679},
            {0x00000000, 0xF0000000, 0x0000000F, 0xF000000F},
        };
        for (int[] row : rows) {
            DepotServer x = owing(row);
            CHECK.due("resolve", x.resolve(1, 0, 0), 0);
            CHECK.due("the merge by base " + Integer.toHexString(row[0]), x.text(1, 0), row[3]);
        }
        int[][] clashes = {
            {0x00000000, 0x10000000, 0x20000000},
            {0x00000000, 0x00000001, 0x00000002},
            {0x00030000, 0x00010000, 0x00020000},
            {0x0000000F, 0x00000000, 0x00000007},
        };
        for (int[] row : clashes) {
            DepotServer x = owing(row);
            CHECK.due("resolve of a clash by base " + Integer.toHexString(row[0]), x.resolve(1, 0, 0), -3);
            CHECK.due("text after a clash", x.text(1, 0), row[1]);
        }
    }

    /** A depot whose client 1 has file 0 open with row[1] and owes the update to row[2] from row[0]. */
    private static DepotServer owing(int[] row) {
        DepotServer x = Check.depot(1);
        Check.put(x, 0, row[0]);
        x.sync(1, -1);
        x.edit(1, 0, 0);
        x.store(1, 0, row[1]);
        Check.change(x, 0, 0, row[2]);
        x.sync(1, -1);
        return x;
    }

    private static void holds(DepotServer x, int client, int file, int have, int text) {
        CHECK.due("have(" + client + ", " + file + ")", x.have(client, file), have);
        CHECK.due("text(" + client + ", " + file + ")", x.text(client, file), text);
    }
}
