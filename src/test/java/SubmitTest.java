/** Promise 15, with the questions 18 and 20 to 25 about what it leaves. */
public final class SubmitTest {
    private static final Check CHECK = new Check("SubmitTest");

    public static void main(String[] args) {
        noSuch();
        oneChangeForAList();
        allTwelve();
        kinds();
        orderOfRefusals();
        mostRevisions();
        mostRevisionsByAList();
        questions();
        CHECK.end();
    }

    private static void noSuch() {
        DepotServer x = Check.depot(1);
        x.add(0, 0, 0, false);
        int before = x.journal();
        int[][] wrong = {{-1, 0}, {3, 0}, {0, -1}, {0, 2}};
        for (int[] w : wrong) {
            CHECK.due("submit(" + w[0] + ", " + w[1] + ")", x.submit(w[0], w[1]), -1);
        }
        CHECK.due("the other list", x.submit(0, 1), -2);
        CHECK.due("another client", x.submit(1, 0), -2);
        CHECK.due("refused submits are no records", x.journal(), before);
        CHECK.due("submit", x.submit(0, 0), 1);
        CHECK.due("submit is a record", x.journal(), before + 1);
        CHECK.due("submit again", x.submit(0, 0), -2);
        CHECK.due("changes", x.changes(), 1);
    }

    private static void oneChangeForAList() {
        DepotServer x = Check.depot(4);
        for (int file = 0; file < 4; file++) {
            x.add(0, file, file % 2, false);
            x.store(0, file, 10 + file);
        }
        CHECK.due("submit list 1", x.submit(0, 1), 1);
        CHECK.due("head of a file on list 0", x.head(0), 0);
        CHECK.due("it is still open", x.opened(0, 0, 0), 1);
        for (int file = 1; file < 4; file += 2) {
            CHECK.due("head", x.head(file), 1);
            CHECK.due("change", x.revision(file, 1, 0), 1);
            CHECK.due("content", x.revision(file, 1, 1), 10 + file);
            CHECK.due("deleted", x.revision(file, 1, 2), 0);
            CHECK.due("open no more", x.opened(0, file, 0), 0);
            CHECK.due("have", x.have(0, file), 1);
            CHECK.due("text", x.text(0, file), 10 + file);
        }
        CHECK.due("submit list 0", x.submit(0, 0), 2);
        CHECK.due("change of a file on list 0", x.revision(2, 1, 0), 2);
    }

    private static void allTwelve() {
        DepotServer x = Check.depot(12);
        for (int file = 0; file < 12; file++) {
            x.add(2, file, 1, false);
            x.store(2, file, file + 1);
        }
        CHECK.due("submit of 12 files", x.submit(2, 1), 1);
        CHECK.due("sync of 12 files", x.sync(1, -1), 12);
        for (int file = 0; file < 12; file++) {
            CHECK.due("change", x.revision(file, 1, 0), 1);
            CHECK.due("text", x.text(1, file), file + 1);
        }
        CHECK.due("sync to 0", x.sync(1, 0), 12);
    }

    private static void kinds() {
        DepotServer x = Check.depot(2);
        x.add(0, 0, 0, true);
        x.store(0, 0, 5);
        x.submit(0, 0);
        Check.change(x, 0, 0, 6);
        CHECK.due("an edit is exclusive as the latest one", x.revision(0, 2, 3), 1);
        Check.drop(x, 0, 0);
        CHECK.due("head", x.head(0), 3);
        CHECK.due("deleted", x.revision(0, 3, 2), 1);
        CHECK.due("content of a deleted one", x.revision(0, 3, 1), 0);
        CHECK.due("exclusive as the latest one", x.revision(0, 3, 3), 1);
        CHECK.due("have of a deleted one", x.have(0, 0), 0);
        CHECK.due("text of a deleted one", x.text(0, 0), 0);
        CHECK.due("the earlier content stays", x.revision(0, 2, 1), 6);
        Check.put(x, 0, 7);
        CHECK.due("an add is exclusive as it was opened", x.revision(0, 4, 3), 0);
        CHECK.due("have after an add", x.have(0, 0), 4);
        x.edit(0, 0, 0);
        x.view(0, 0, -1);
        CHECK.due("submit of a file that is not mapped any more", x.submit(0, 0), 5);
        CHECK.due("text of an edit without a store", x.revision(0, 5, 1), 7);
    }

    private static void orderOfRefusals() {
        DepotServer x = Check.depot(4);
        Check.put(x, 0, 1);
        Check.put(x, 1, 2);
        x.sync(1, -1);
        x.join(1, 0, 1, 0);
        CHECK.due("owing", x.submit(1, 0), -4);
        x.add(1, 2, 0, false);
        Check.put(x, 2, 3);
        CHECK.due("an add of a file that is not gone, before owing", x.submit(1, 0), -3);
        x.reopen(1, 2, 1);
        CHECK.due("owing alone", x.submit(1, 0), -4);
        CHECK.due("the add alone", x.submit(1, 1), -3);
        CHECK.due("nothing was submitted", x.changes(), 3);
        Check.drop(x, 0, 2);
        CHECK.due("the add of a file that is gone again", x.submit(1, 1), 5);
        CHECK.due("its revision", x.head(2), 3);
        x.revert(1, 1);
        x.remove(1, 0, 0);
        Check.change(x, 0, 0, 9);
        CHECK.due("a remove whose base is behind", x.submit(1, 0), -3);
        x.add(1, 3, 0, false);
        CHECK.due("one of two files is behind", x.submit(1, 0), -3);
        CHECK.due("the other one gets no revision", x.head(3), 0);
        x.revert(1, 0);
        CHECK.due("the other one alone", x.submit(1, 0), 7);
    }

    private static void mostRevisions() {
        DepotServer x = Check.depot(2);
        Check.put(x, 0, 1);
        for (int k = 2; k <= 48; k++) {
            CHECK.due("change " + k, Check.change(x, 0, 0, k), k);
        }
        CHECK.due("head", x.head(0), 48);
        CHECK.due("revision 1", x.revision(0, 1, 1), 1);
        CHECK.due("revision 48", x.revision(0, 48, 1), 48);
        CHECK.due("revision 49", x.revision(0, 49, 1), -1);
        CHECK.due("the 49th revision", Check.change(x, 0, 0, 49), -5);
        CHECK.due("the file is still open", x.opened(0, 0, 0), 2);
        CHECK.due("of another file", Check.put(x, 1, 1), -5);
        CHECK.due("changes", x.changes(), 48);
        x.revert(0, 0);
        x.revert(0, 1);
        CHECK.due("crash", x.crash(8) > 0, true);
        CHECK.due("revisions are free again after a crash", x.head(0), 47);
        CHECK.due("the edit came back", x.opened(0, 0, 0), 2);
        CHECK.due("submit", x.submit(0, 1), 48);
    }

    private static void mostRevisionsByAList() {
        DepotServer x = Check.depot(3);
        Check.put(x, 0, 1);
        for (int k = 2; k <= 46; k++) {
            Check.change(x, 0, 0, k);
        }
        x.edit(0, 0, 0);
        x.add(0, 1, 0, false);
        x.add(0, 2, 0, false);
        CHECK.due("three more than 46", x.submit(0, 0), -5);
        CHECK.due("none of them was made", x.head(0), 46);
        x.reopen(0, 2, 1);
        CHECK.due("two more than 46", x.submit(0, 0), 47);
        CHECK.due("one more than 48", x.submit(0, 1), -5);
        x.edit(0, 0, 1);
        x.store(0, 0, 3);
        CHECK.due("two more than 48", x.submit(0, 1), -5);
    }

    private static void questions() {
        DepotServer x = Check.depot(2);
        Check.put(x, 0, -1);
        int before = x.journal();
        CHECK.due("head(-1)", x.head(-1), -1);
        CHECK.due("head(2)", x.head(2), -1);
        CHECK.due("head(12)", x.head(12), -1);
        CHECK.due("head of a file without revisions", x.head(1), 0);
        int[][] none = {{-1, 1, 0}, {2, 1, 0}, {0, 0, 0}, {0, 0, 2}, {0, 2, 0}, {0, -1, 0}, {0, 1, -1}, {0, 1, 4},
            {1, 0, 0}, {1, 1, 0}, {0, Integer.MIN_VALUE, 1}, {12, 0, 3}};
        for (int[] n : none) {
            String with = n[0] + ", " + n[1] + ", " + n[2];
            CHECK.due("revision(" + with + ")", x.revision(n[0], n[1], n[2]), -1);
        }
        int[][] noSuch = {{-1, 0}, {3, 0}, {0, -1}, {0, 2}, {0, 12}, {Integer.MAX_VALUE, Integer.MAX_VALUE}};
        x.edit(0, 0, 1);
        for (int[] n : noSuch) {
            String with = n[0] + ", " + n[1];
            CHECK.due("have(" + with + ")", x.have(n[0], n[1]), -1);
            CHECK.due("text(" + with + ")", x.text(n[0], n[1]), 0);
            CHECK.due("opened(" + with + ", 0)", x.opened(n[0], n[1], 0), -1);
            CHECK.due("opened(" + with + ", 1)", x.opened(n[0], n[1], 1), -1);
        }
        CHECK.due("opened with what -1", x.opened(0, 0, -1), -1);
        CHECK.due("opened with what 6", x.opened(0, 0, 6), -1);
        CHECK.due("opened with what 6, not open", x.opened(1, 0, 6), -1);
        CHECK.due("opened with what 0, not open", x.opened(1, 0, 0), 0);
        CHECK.due("opened with what 3, not open", x.opened(1, 0, 3), -1);
        CHECK.due("opened with what 3", x.opened(0, 0, 3), 0);
        CHECK.due("text at a client", x.text(0, 0), -1);
        int[][] noPairs = {{-1, 0}, {0, -1}, {2, 0}, {0, 2}, {0, 0}, {1, 1}, {0, 12}, {12, 0}};
        for (int[] n : noPairs) {
            CHECK.due("joined(" + n[0] + ", " + n[1] + ")", x.joined(n[0], n[1]), -1);
        }
        CHECK.due("joined(0, 1)", x.joined(0, 1), 0);
        CHECK.due("questions are no records", x.journal(), before + 1);
    }
}
