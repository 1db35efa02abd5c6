/** The edges of promise 12. */
public final class SyncEdgesTest extends Edges {
    /** File 0: change 1 content 5, change 2 content 6, change 4 deleted, change 5 content 8; file 1: change 3. */
    private static final Run HISTORY = ONE.then("edit 0 0 0; store 0 0 6; submit 0 0; add 0 1 0 false; store 0 1 7; "
        + "submit 0 0; remove 0 0 0; submit 0 0; add 0 0 0 false; store 0 0 8; submit 0 0");
    /** Client 1 has file 0 open for EDIT by revision 2; its head is revision 3, of change 3. */
    private static final Run BEHIND = ONE.then("edit 0 0 0; store 0 0 6; submit 0 0; sync 1 -1; edit 1 0 0; "
        + "edit 0 0 0; store 0 0 7; submit 0 0");

    public static void main(String[] args) {
        new SyncEdgesTest().runAll();
    }

    private void brings(Run run, String sync, int count, int have, int text) {
        answers(run, sync, count);
        answers(run.then(sync), "have 1 0", have);
        answers(run.then(sync), "text 1 0", text);
    }

    @Sentence("No such client, file, list, slot or line is always -1, or false, and comes first.")
    private void noSuchClient() {
        for (String no : new String[] {"-1", "3", "MIN", "MAX"}) {
            refuses(HISTORY, "sync " + no + " -1", -1);
            refuses(HISTORY, "sync " + no + " 1", -1);
        }
        answers(HISTORY, "sync 2 -1", 2);
    }

    @Sentence("(to the latest one if change is negative)")
    private void negativeChange() {
        brings(HISTORY, "sync 1 -1", 2, 4, 8);
        brings(HISTORY, "sync 1 -2", 2, 4, 8);
        brings(HISTORY, "sync 1 MIN", 2, 4, 8);
        brings(HISTORY, "sync 1 0", 0, 0, 0);
        answers(SEEN, "sync 1 -1", 0);
    }

    @Sentence("its latest revision with a change number that is not above that")
    private void eachChange() {
        brings(HISTORY, "sync 1 1", 1, 1, 5);
        brings(HISTORY, "sync 1 2", 1, 2, 6);
        brings(HISTORY, "sync 1 3", 2, 2, 6);
        brings(HISTORY, "sync 1 4", 1, 0, 0);
        brings(HISTORY, "sync 1 5", 2, 4, 8);
        brings(HISTORY, "sync 1 6", 2, 4, 8);
        brings(HISTORY, "sync 1 MAX", 2, 4, 8);
    }

    @Sentence("but 0 if there is none, it is deleted, or the file is not mapped")
    private void nothingIsWanted() {
        brings(HISTORY.then("sync 1 2"), "sync 1 0", 1, 0, 0);
        brings(HISTORY.then("sync 1 2"), "sync 1 4", 2, 0, 0);
        brings(HISTORY.then("sync 1 2; view 1 0 -1"), "sync 1 2", 1, 0, 0);
        brings(HISTORY.then("sync 1 2; line -a; view 1 1 1"), "sync 1 2", 1, 0, 0);
        brings(HISTORY.then("view 1 0 -1"), "sync 1 -1", 0, 0, 0);
        Run same = HISTORY.then("sync 1 -1; line b>a; view 1 1 1");
        answers(same, "sync 1 -1", 1);
        answers(same.then("sync 1 -1"), "have 1 1", 0);
        answers(same.then("sync 1 -1"), "have 1 0", 4);
    }

    @Sentence("A file that is not open and whose have is not wanted")
    private void haveIsWanted() {
        brings(HISTORY.then("sync 1 2"), "sync 1 2", 0, 2, 6);
        brings(HISTORY.then("sync 1 -1"), "sync 1 -1", 0, 4, 8);
        brings(HISTORY.then("sync 1 -1"), "sync 1 1", 2, 1, 5);
        answers(SEEN, "sync 0 0", 0);
        answers(SEEN.then("sync 0 0"), "journal", 4);
    }

    @Sentence("A file that is not open")
    private void openFilesKeepWhatTheyHave() {
        Run held = HISTORY.then("sync 1 2");
        brings(held.then("edit 1 0 0; store 1 0 9"), "sync 1 0", 0, 2, 9);
        brings(held.then("edit 1 0 0; store 1 0 9"), "sync 1 1", 0, 2, 9);
        brings(held.then("edit 1 0 0; store 1 0 9"), "sync 1 -1", 2, 2, 9);
        brings(held.then("remove 1 0 0"), "sync 1 -1", 1, 2, 0);
        brings(held.then("remove 1 0 0"), "sync 1 0", 0, 2, 0);
        brings(held.then("edit 1 0 0; view 1 0 -1"), "sync 1 -1", 0, 2, 6);
        Run added = SEEN.then("add 1 0 0 false; store 1 0 9; add 0 0 0 false; submit 0 0");
        brings(added, "sync 1 -1", 0, 0, 9);
        answers(added.then("sync 1 -1"), "opened 1 0 3", 0);
    }

    @Sentence("A file open for EDIT whose base is less than wanted")
    private void baseAndWanted() {
        answers(BEHIND, "sync 1 1", 0);
        answers(BEHIND.then("sync 1 1"), "opened 1 0 3", 0);
        answers(BEHIND, "sync 1 2", 0);
        answers(BEHIND.then("sync 1 2"), "opened 1 0 3", 0);
        answers(BEHIND, "sync 1 3", 1);
        answers(BEHIND.then("sync 1 3"), "opened 1 0 3", 3);
        answers(BEHIND.then("sync 1 3"), "have 1 0", 2);
        answers(BEHIND.then("sync 1 3"), "opened 1 0 2", 2);
    }

    @Sentence("A file open for EDIT")
    private void onlyEditsOweUpdates() {
        Run removed = BEHIND.then("revert 1 0; remove 1 0 0");
        answers(removed, "sync 1 -1", 0);
        answers(removed.then("sync 1 -1"), "opened 1 0 3", 0);
        Run notMapped = BEHIND.then("view 1 0 -1");
        answers(notMapped, "sync 1 -1", 0);
        answers(notMapped.then("sync 1 -1"), "opened 1 0 3", 0);
        Run deleted = BEHIND.then("remove 0 0 0; submit 0 0");
        answers(deleted, "sync 1 -1", 0);
        answers(deleted.then("sync 1 -1"), "opened 1 0 3", 0);
        answers(deleted, "sync 1 3", 1);
    }

    @Sentence("and that does not owe the update wanted: it owes this one")
    private void whatIsOwedAlready() {
        Run owing = BEHIND.then("sync 1 -1");
        answers(owing, "sync 1 -1", 0);
        answers(owing.then("sync 1 -1"), "opened 1 0 3", 3);
        Run further = owing.then("edit 0 0 0; submit 0 0");
        answers(further, "sync 1 -1", 1);
        answers(further.then("sync 1 -1"), "opened 1 0 3", 4);
        answers(further.then("sync 1 -1"), "sync 1 3", 1);
        answers(further.then("sync 1 -1; sync 1 3"), "opened 1 0 3", 3);
        answers(further.then("sync 1 -1; sync 1 2"), "opened 1 0 3", 4);
        answers(owing.then("resolve 1 0 2"), "sync 1 -1", 0);
    }

    @Sentence("How many files of these two kinds there were.")
    private void countOfBothKinds() {
        Run both = BEHIND.then("add 0 1 0 false; add 0 2 1 false; submit 0 0; submit 0 1");
        answers(both, "sync 1 -1", 3);
        answers(both, "sync 1 4", 2);
        answers(both, "sync 2 -1", 3);
        answers(both.then("sync 1 -1"), "sync 1 -1", 0);
        answers(both.then("sync 1 -1"), "journal", both.made().journal() + 1);
        Run twelve = Run.of("line ~>~; view 0 0 0; view 1 0 0");
        for (char c = 'a'; c <= 'l'; c++) {
            twelve = twelve.then("file " + c + "; add 0 " + (c - 'a') + " 0 false");
        }
        answers(twelve.then("submit 0 0"), "sync 1 -1", 12);
        answers(twelve.then("submit 0 0; sync 1 -1"), "sync 1 0", 12);
    }
}
