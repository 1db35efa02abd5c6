/** The edges of promises 6 to 11: add, edit, remove, store, reopen and revert. */
public final class OpenEdgesTest extends Edges {
    /** File 0 was deleted by client 0; client 1 still has its revision 1. */
    private static final Run DELETED = ONE.then("sync 1 -1; remove 0 0 0; submit 0 0");
    /** File 0 has an exclusive revision, which all clients have. */
    private static final Run EXCLUSIVE = SEEN.then("add 0 0 0 true; store 0 0 5; submit 0 0; sync 1 -1; sync 2 -1");
    /** File 0 has a revision, which all clients have. */
    private static final Run HELD = ONE.then("sync 1 -1; sync 2 -1");

    public static void main(String[] args) {
        new OpenEdgesTest().runAll();
    }

    // ---- what they share

    @Sentence("No such client, file, list, slot or line is always -1, or false, and comes first.")
    private void noSuchClientFileOrList() {
        Run state = HELD.then("edit 0 0 0; add 0 1 0 false");
        for (String no : new String[] {"-1", "3", "12", "MIN", "MAX"}) {
            for (String arguments : new String[] {no + " 0 0", "0 " + no + " 0", "0 0 " + no}) {
                refuses(state, "add " + arguments + " false", -1);
                refuses(state, "edit " + arguments, -1);
                refuses(state, "remove " + arguments, -1);
                refuses(state, "reopen " + arguments, FALSE);
            }
            refuses(state, "store " + no + " 0 7", FALSE);
            refuses(state, "store 0 " + no + " 7", FALSE);
            refuses(state, "revert " + no + " 0", FALSE);
            refuses(state, "revert 0 " + no, FALSE);
        }
    }

    @Sentence("on LIST 0 or 1")
    private void lists() {
        for (int list = 0; list < 2; list++) {
            answers(HELD.then("add 0 1 " + list + " false"), "opened 0 1 1", list);
            answers(HELD.then("edit 0 0 " + list), "opened 0 0 1", list);
            answers(HELD.then("remove 0 0 " + list), "opened 0 0 1", list);
            answers(HELD.then("edit 0 0 0; reopen 0 0 " + list), "opened 0 0 1", list);
        }
        refuses(HELD, "add 0 1 2 false", -1);
        refuses(HELD, "add 0 1 -1 false", -1);
        refuses(HELD, "edit 0 0 2", -1);
        refuses(HELD, "edit 0 0 -1", -1);
        refuses(HELD, "remove 0 0 2", -1);
        refuses(HELD, "remove 0 0 -1", -1);
        refuses(HELD.then("edit 0 0 0"), "reopen 0 0 2", FALSE);
        refuses(HELD.then("edit 0 0 0"), "reopen 0 0 -1", FALSE);
    }

    @Sentence("comes first")
    private void noSuchComesBeforeEachRefusal() {
        // Not mapped, not gone or have 0, open, hindered: with a list that is none they are all -1.
        refuses(SEEN.then("view 0 0 -1"), "add 0 0 2 false", -1);
        refuses(ONE, "add 0 0 2 false", -1);
        refuses(SEEN.then("add 0 0 0 false"), "add 0 0 2 false", -1);
        refuses(SEEN.then("add 1 0 0 true"), "add 0 0 2 false", -1);
        for (String call : new String[] {"edit", "remove"}) {
            refuses(HELD.then("view 0 0 -1"), call + " 0 0 2", -1);
            refuses(SEEN, call + " 0 0 2", -1);
            refuses(HELD.then("edit 0 0 0"), call + " 0 0 2", -1);
            refuses(EXCLUSIVE.then("edit 1 0 0"), call + " 0 0 2", -1);
        }
    }

    @Sentence("A file that is OPENED owes nothing and has no credit.")
    private void openedAnew() {
        Run owing = TWO.then("join 1 0 1 0; edit 0 1 0; submit 0 0; sync 1 -1");
        answers(owing, "opened 1 1 3", 2);
        answers(owing, "opened 1 1 4", 0);
        Run again = owing.then("revert 1 1; edit 1 1 0");
        answers(again, "opened 1 1 3", 0);
        answers(again, "opened 1 1 4", NONE);
        answers(again, "opened 1 1 5", NONE);
        Run credited = ONE.then("join 1 0 1 0; revert 1 1; add 1 1 0 false");
        answers(credited, "opened 1 1 5", NONE);
        answers(credited.then("submit 1 0"), "joins", 0);
    }

    // ---- hindered

    @Sentence("HINDERED if another client has it open")
    private void nobodyElseHasItOpen() {
        answers(EXCLUSIVE, "edit 0 0 0", 0);
        answers(EXCLUSIVE, "remove 2 0 0", 0);
        answers(SEEN, "add 1 0 0 true", 0);
        answers(EXCLUSIVE.then("add 1 1 0 false"), "edit 0 0 0", 0);
        answers(EXCLUSIVE.then("edit 1 0 0; revert 1 0"), "edit 0 0 0", 0);
        answers(EXCLUSIVE.then("edit 1 0 0; submit 1 0; sync 0 -1"), "edit 0 0 0", 0);
    }

    @Sentence("and the file's latest revision is exclusive")
    private void latestRevisionIsExclusive() {
        for (int client = 0; client < 3; client++) {
            for (int other = 0; other < 3; other++) {
                if (other != client) {
                    refuses(EXCLUSIVE.then("edit " + other + " 0 0"), "edit " + client + " 0 0", -5);
                    refuses(EXCLUSIVE.then("remove " + other + " 0 0"), "remove " + client + " 0 0", -5);
                    answers(HELD.then("edit " + other + " 0 0"), "edit " + client + " 0 0", 0);
                    answers(HELD.then("remove " + other + " 0 0"), "remove " + client + " 0 0", 0);
                }
            }
        }
        refuses(EXCLUSIVE.then("edit 1 0 0"), "remove 0 0 0", -5);
        refuses(EXCLUSIVE.then("remove 1 0 0"), "edit 0 0 0", -5);
    }

    @Sentence("the file's latest revision is exclusive")
    private void onlyTheLatestRevisionCounts() {
        Run gone = EXCLUSIVE.then("remove 0 0 0; submit 0 0; sync 1 -1; sync 2 -1");
        refuses(gone.then("add 1 0 0 false"), "add 0 0 0 false", -5);
        Run plain = gone.then("add 0 0 0 false; submit 0 0; sync 1 -1");
        answers(plain.then("edit 1 0 0"), "edit 0 0 0", 0);
        Run again = HELD.then("remove 0 0 0; submit 0 0; add 0 0 0 true; submit 0 0; sync 1 -1");
        refuses(again.then("edit 1 0 0"), "edit 0 0 0", -5);
    }

    @Sentence("or that other client opened it for ADD as exclusive")
    private void anotherAddsAsExclusive() {
        refuses(SEEN.then("add 1 0 0 true"), "add 0 0 0 false", -5);
        refuses(SEEN.then("add 0 0 0 true"), "add 2 0 0 false", -5);
        answers(SEEN.then("add 1 0 0 false"), "add 0 0 0 false", 0);
        answers(SEEN.then("add 1 0 0 true"), "add 0 1 0 false", 0);
        answers(SEEN.then("add 1 0 0 true; revert 1 0"), "add 0 0 0 false", 0);
        answers(SEEN.then("add 1 0 0 true; revert 1 0; add 1 0 0 false"), "add 0 0 0 false", 0);
        answers(SEEN.then("add 1 0 0 true; crash 1"), "add 0 0 0 false", 0);
        // Client 1 once added as exclusive; what it has open now is an EDIT.
        Run once = SEEN.then("add 1 0 0 true; revert 1 0; add 0 0 0 false; submit 0 0; sync 1 -1; edit 1 0 0");
        answers(once, "edit 0 0 0", 0);
        // Client 1 holds a revision that was deleted since, and may edit only when nobody adds as exclusive.
        refuses(DELETED.then("add 0 0 0 true"), "edit 1 0 0", -5);
        refuses(DELETED.then("add 0 0 0 true"), "remove 1 0 0", -5);
        answers(DELETED.then("add 0 0 0 false"), "edit 1 0 0", 0);
    }

    @Sentence("or it is now to be opened for ADD as exclusive")
    private void nowToBeAddedAsExclusive() {
        refuses(SEEN.then("add 1 0 0 false"), "add 0 0 0 true", -5);
        refuses(SEEN.then("add 0 0 0 false"), "add 2 0 0 true", -5);
        refuses(DELETED.then("edit 1 0 0"), "add 0 0 0 true", -5);
        refuses(DELETED.then("remove 1 0 0"), "add 0 0 0 true", -5);
        answers(DELETED.then("edit 1 0 0"), "add 0 0 0 false", 0);
        answers(SEEN, "add 0 0 0 true", 0);
    }

    // ---- promise 6

    @Sentence("A file is GONE if its head is 0 or that revision is deleted.")
    private void goneOrNot() {
        answers(SEEN, "add 2 0 0 false", 0);
        refuses(ONE, "add 2 0 0 false", -3);
        answers(DELETED, "add 2 0 0 false", 0);
        Run again = DELETED.then("add 0 0 0 false; submit 0 0");
        refuses(again, "add 2 0 0 false", -3);
        answers(again.then("remove 0 0 0; submit 0 0"), "add 2 0 0 false", 0);
        // A revision that is lost is not there.
        answers(ONE.then("crash 1"), "add 2 0 0 false", 0);
        refuses(DELETED.then("crash 1"), "add 2 0 0 false", -3);
    }

    @Sentence("-2 if it is not mapped")
    private void addOfWhatIsNotMapped() {
        refuses(SEEN.then("view 0 0 -1"), "add 0 0 0 false", -2);
        refuses(SEEN.then("line -a; view 0 3 1"), "add 0 0 0 false", -2);
        refuses(SEEN.then("line b>a; view 0 3 1"), "add 0 1 0 false", -2);
        answers(SEEN.then("line b>a; view 0 3 1"), "add 0 0 0 false", 0);
        answers(SEEN.then("view 0 0 -1"), "add 1 0 0 false", 0);
    }

    @Sentence("-3 if it is not gone")
    private void addOfWhatIsNotGone() {
        refuses(ONE, "add 1 0 0 false", -3);
        answers(SEEN, "add 1 0 0 false", 0);
        answers(DELETED, "add 2 0 0 false", 0);
        answers(ONE, "add 1 1 0 false", 0);
    }

    @Sentence("or have is not 0")
    private void addWhereHaveIsNot0() {
        refuses(DELETED, "add 1 0 0 false", -3);
        answers(DELETED.then("sync 1 -1"), "add 1 0 0 false", 0);
        answers(DELETED, "add 0 0 0 false", 0);
    }

    @Sentence("-4 if it is open at this client")
    private void addOfWhatIsOpen() {
        refuses(SEEN.then("add 0 0 0 false"), "add 0 0 0 false", -4);
        refuses(SEEN.then("add 0 0 0 false"), "add 0 0 1 true", -4);
        answers(SEEN.then("add 0 0 0 false"), "add 1 0 0 false", 0);
        answers(SEEN.then("add 0 0 0 false"), "add 0 1 0 false", 0);
    }

    @Sentence("the first that holds, in the order named, is answered")
    private void orderOfAdd() {
        refuses(ONE.then("view 1 0 -1"), "add 1 0 0 false", -2);
        refuses(DELETED.then("view 1 0 -1"), "add 1 0 0 false", -2);
        refuses(SEEN.then("add 0 0 0 false; view 0 0 -1"), "add 0 0 0 false", -2);
        refuses(SEEN.then("add 1 0 0 true; view 0 0 -1"), "add 0 0 0 false", -2);
        refuses(HELD.then("edit 0 0 0"), "add 0 0 0 false", -3);
        refuses(SEEN.then("add 1 0 0 false; add 0 0 0 false; submit 0 0"), "add 1 0 0 false", -3);
        refuses(EXCLUSIVE.then("edit 0 0 0"), "add 1 0 0 false", -3);
        refuses(DELETED.then("add 0 0 0 true"), "add 1 0 0 false", -3);
        refuses(SEEN.then("add 0 0 0 false; add 1 0 0 false"), "add 0 0 0 true", -4);
    }

    @Sentence("Its base is 0, its text becomes 0.")
    private void whatAddLeaves() {
        Run added = DELETED.then("add 0 0 1 false");
        answers(added, "opened 0 0 0", 1);
        answers(added, "opened 0 0 2", 0);
        answers(added, "have 0 0", 0);
        answers(added, "text 0 0", 0);
        answers(added.then("store 0 0 7; revert 0 0; add 0 0 1 false"), "text 0 0", 0);
    }

    // ---- promises 7 and 8

    @Sentence("-2 if it is not mapped")
    private void editOfWhatIsNotMapped() {
        for (String call : new String[] {"edit", "remove"}) {
            refuses(HELD.then("view 0 0 -1"), call + " 0 0 0", -2);
            refuses(HELD.then("line -a; view 0 3 1"), call + " 0 0 0", -2);
            answers(HELD.then("view 1 0 -1"), call + " 0 0 0", 0);
            Run same = TWO.then("line b>a; view 0 3 1");
            refuses(same, call + " 0 1 0", -2);
            answers(same, call + " 0 0 0", 0);
        }
    }

    @Sentence("-3 if have is 0")
    private void editWhereHaveIs0() {
        for (String call : new String[] {"edit", "remove"}) {
            refuses(SEEN, call + " 0 0 0", -3);
            refuses(ONE, call + " 1 0 0", -3);
            answers(ONE, call + " 0 0 0", 0);
            refuses(DELETED, call + " 0 0 0", -3);
            // The head is deleted, but have is what is asked for.
            answers(DELETED, call + " 1 0 0", 0);
        }
    }

    @Sentence("-4 if it is open at this client")
    private void editOfWhatIsOpen() {
        for (String call : new String[] {"edit", "remove"}) {
            refuses(HELD.then("edit 0 0 0"), call + " 0 0 0", -4);
            refuses(HELD.then("remove 0 0 0"), call + " 0 0 1", -4);
            answers(HELD.then("edit 1 0 0"), call + " 0 0 0", 0);
            answers(HELD.then("remove 1 0 0"), call + " 0 0 0", 0);
        }
    }

    @Sentence("the first that holds, in the order named, is answered")
    private void orderOfEdit() {
        for (String call : new String[] {"edit", "remove"}) {
            refuses(SEEN.then("view 0 0 -1"), call + " 0 0 0", -2);
            refuses(HELD.then("edit 0 0 0; view 0 0 -1"), call + " 0 0 0", -2);
            refuses(EXCLUSIVE.then("edit 1 0 0; view 0 0 -1"), call + " 0 0 0", -2);
            refuses(SEEN.then("add 0 0 0 false"), call + " 0 0 0", -3);
            refuses(SEEN.then("add 1 0 0 true"), call + " 0 0 0", -3);
            refuses(EXCLUSIVE.then("sync 0 0; edit 1 0 0"), call + " 0 0 0", -3);
        }
    }

    @Sentence("Its base is have.")
    private void baseOfAnOlderRevision() {
        Run older = HELD.then("edit 0 0 0; store 0 0 6; submit 0 0");
        answers(older.then("edit 1 0 0"), "opened 1 0 2", 1);
        answers(older.then("edit 0 0 0"), "opened 0 0 2", 2);
        answers(older.then("remove 1 0 0"), "opened 1 0 2", 1);
        answers(older.then("edit 1 0 0"), "text 1 0", 5);
    }

    @Sentence("Its base is have, its text becomes 0.")
    private void whatRemoveLeaves() {
        answers(HELD.then("remove 0 0 1"), "opened 0 0 0", 3);
        answers(HELD.then("remove 0 0 1"), "opened 0 0 2", 1);
        answers(HELD.then("remove 0 0 1"), "text 0 0", 0);
        answers(HELD.then("remove 0 0 1"), "have 0 0", 1);
        answers(HELD.then("remove 0 0 1"), "text 1 0", 5);
        answers(HELD.then("edit 0 0 1"), "text 0 0", 5);
    }

    // ---- promises 9 to 11

    @Sentence("False if it is not open there for ADD or EDIT.")
    private void storeIntoWhatIsNotOpen() {
        refuses(HELD, "store 0 0 7", FALSE);
        refuses(HELD.then("edit 1 0 0"), "store 0 0 7", FALSE);
        refuses(HELD.then("edit 0 0 0"), "store 0 1 7", FALSE);
        refuses(HELD.then("remove 0 0 0"), "store 0 0 7", FALSE);
        refuses(HELD.then("edit 0 0 0; revert 0 0"), "store 0 0 7", FALSE);
        refuses(HELD.then("edit 0 0 0; submit 0 0"), "store 0 0 7", FALSE);
        answers(HELD.then("edit 0 0 0"), "store 0 0 7", TRUE);
        answers(HELD.then("add 0 1 0 false"), "store 0 1 7", TRUE);
        answers(HELD.then("edit 0 0 0; view 0 0 -1"), "store 0 0 7", TRUE);
    }

    @Sentence("CONTENTS are ints")
    private void lowestAndHighestContent() {
        for (int content : new int[] {0, 1, -1, Integer.MIN_VALUE, Integer.MAX_VALUE}) {
            Run stored = SEEN.then("add 0 0 0 false; store 0 0 9; store 0 0 " + content);
            answers(stored, "text 0 0", content);
            answers(stored.then("submit 0 0"), "revision 0 1 1", content);
            answers(stored.then("submit 0 0; sync 1 -1"), "text 1 0", content);
        }
    }

    @Sentence("An open file is on this list from now on: true. False if it is not open there.")
    private void reopenOfWhatIsNotOpen() {
        refuses(HELD, "reopen 0 0 1", FALSE);
        refuses(HELD.then("edit 1 0 0"), "reopen 0 0 1", FALSE);
        refuses(HELD.then("edit 0 0 0"), "reopen 0 1 1", FALSE);
        refuses(HELD.then("edit 0 0 0; revert 0 0"), "reopen 0 0 1", FALSE);
        refuses(HELD.then("edit 0 0 0; submit 0 0"), "reopen 0 0 1", FALSE);
        answers(HELD.then("edit 0 0 0"), "reopen 0 0 1", TRUE);
        answers(HELD.then("remove 0 0 0"), "reopen 0 0 1", TRUE);
        answers(HELD.then("add 0 1 0 false"), "reopen 0 1 1", TRUE);
        answers(HELD.then("edit 0 0 1"), "reopen 0 0 1", TRUE);
        answers(HELD.then("edit 0 0 1; reopen 0 0 1"), "opened 0 0 1", 1);
        answers(HELD.then("edit 0 0 0; view 0 0 -1"), "reopen 0 0 1", TRUE);
    }

    @Sentence("False if it is not open there.")
    private void revertOfWhatIsNotOpen() {
        refuses(HELD, "revert 0 0", FALSE);
        refuses(HELD.then("edit 1 0 0"), "revert 0 0", FALSE);
        refuses(HELD.then("edit 0 0 0"), "revert 0 1", FALSE);
        refuses(HELD.then("edit 0 0 0; revert 0 0"), "revert 0 0", FALSE);
        refuses(HELD.then("edit 0 0 0; submit 0 0"), "revert 0 0", FALSE);
        answers(HELD.then("edit 0 0 0"), "revert 0 0", TRUE);
        answers(HELD.then("remove 0 0 0"), "revert 0 0", TRUE);
        answers(HELD.then("add 0 1 0 false"), "revert 0 1", TRUE);
        answers(HELD.then("edit 0 0 0; view 0 0 -1"), "revert 0 0", TRUE);
        answers(HELD.then("edit 0 0 0; revert 0 0"), "opened 0 0 0", 0);
    }

    @Sentence("its text becomes the content of the revision have")
    private void textAfterRevert() {
        answers(HELD.then("edit 0 0 0; store 0 0 9; revert 0 0"), "text 0 0", 5);
        answers(HELD.then("remove 0 0 0; revert 0 0"), "text 0 0", 5);
        answers(HELD.then("add 0 1 0 false; store 0 1 9; revert 0 1"), "text 0 1", 0);
        answers(ONE.then("join 0 0 1 0; revert 0 1"), "text 0 1", 0);
        Run newer = HELD.then("edit 1 0 0; edit 0 0 0; store 0 0 6; submit 0 0");
        answers(newer.then("revert 1 0"), "text 1 0", 5);
        answers(newer.then("sync 1 -1; resolve 1 0 2; revert 1 0"), "text 1 0", 6);
        answers(newer.then("remove 0 0 0; submit 0 0; store 1 0 9; revert 1 0"), "text 1 0", 5);
    }
}
