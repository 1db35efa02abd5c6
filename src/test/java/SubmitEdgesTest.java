/** The edges of promise 15. */
public final class SubmitEdgesTest extends Edges {
    /** 46 revisions: one of file 1 and 45 of file 0, of changes 1 to 46; client 0 has both. */
    private static final Run OF_46 = SEEN.then("add 0 1 0 false; submit 0 0; add 0 0 0 false; submit 0 0")
        .times(44, "edit 0 0 0; submit 0 0");
    private static final Run OF_47 = OF_46.then("edit 0 0 0; submit 0 0");
    private static final Run OF_48 = OF_47.then("edit 0 0 0; submit 0 0");
    /** Client 1 has files 0 and 1 at their heads. */
    private static final Run HELD = TWO;

    public static void main(String[] args) {
        new SubmitEdgesTest().runAll();
    }

    // ---- refusals

    @Sentence("No such client, file, list, slot or line is always -1, or false, and comes first.")
    private void noSuch() {
        Run open = HELD.then("edit 0 0 0; edit 0 1 1");
        for (String no : new String[] {"-1", "3", "MIN", "MAX"}) {
            refuses(open, "submit " + no + " 0", -1);
            refuses(open, "submit 0 " + no, -1);
        }
        refuses(open, "submit 0 2", -1);
        refuses(SEEN, "submit 0 2", -1);
        refuses(SEEN, "submit 3 0", -1);
        answers(open, "submit 0 0", 3);
        answers(open, "submit 0 1", 3);
        answers(HELD.then("sync 2 -1; edit 2 0 1"), "submit 2 1", 3);
    }

    @Sentence("-2 if no file is open on that list")
    private void nothingIsOpen() {
        refuses(SEEN, "submit 0 0", -2);
        refuses(HELD.then("edit 0 0 1"), "submit 0 0", -2);
        refuses(HELD.then("edit 0 0 0"), "submit 0 1", -2);
        refuses(HELD.then("edit 1 0 0"), "submit 0 0", -2);
        refuses(HELD.then("edit 0 0 0; revert 0 0"), "submit 0 0", -2);
        refuses(HELD.then("edit 0 0 0; submit 0 0"), "submit 0 0", -2);
        refuses(HELD.then("edit 0 0 0; reopen 0 0 1"), "submit 0 0", -2);
        answers(HELD.then("edit 0 0 1; reopen 0 0 0"), "submit 0 0", 3);
        refuses(HELD.then("edit 0 0 0; crash 1"), "submit 0 0", -2);
    }

    @Sentence("-3 if one of them is open for EDIT or DELETE and its base is not its head")
    private void baseIsNotTheHead() {
        for (String call : new String[] {"edit", "remove"}) {
            Run behind = HELD.then(call + " 1 0 0; edit 0 0 0; submit 0 0");
            refuses(behind, "submit 1 0", -3);
            refuses(HELD.then(call + " 1 0 0; remove 0 0 0; submit 0 0"), "submit 1 0", -3);
            answers(HELD.then(call + " 1 0 0"), "submit 1 0", 3);
            answers(behind.then("revert 1 0; sync 1 -1; " + call + " 1 0 0"), "submit 1 0", 4);
            // One of several files is enough, whichever it is, but it must be on the list.
            refuses(behind.then("edit 1 1 0"), "submit 1 0", -3);
            refuses(HELD.then("edit 1 0 0; " + call + " 1 1 0; edit 0 1 0; submit 0 0"), "submit 1 0", -3);
            answers(behind.then("edit 1 1 1"), "submit 1 1", 4);
        }
        Run updated = HELD.then("edit 1 0 0; edit 0 0 0; submit 0 0; sync 1 -1");
        answers(updated.then("resolve 1 0 0"), "submit 1 0", 4);
        refuses(updated.then("edit 0 0 0; submit 0 0; resolve 1 0 0"), "submit 1 0", -3);
    }

    @Sentence("or for ADD and is not gone")
    private void addOfWhatIsNotGone() {
        Run late = SEEN.then("add 1 0 0 false; add 0 0 0 false; submit 0 0");
        refuses(late, "submit 1 0", -3);
        answers(late.then("remove 0 0 0; submit 0 0"), "submit 1 0", 3);
        answers(SEEN.then("add 1 0 0 false"), "submit 1 0", 1);
        refuses(late.then("add 1 1 0 false"), "submit 1 0", -3);
        answers(late.then("add 1 1 1 false"), "submit 1 1", 2);
        Run copy = ONE.then("join 1 0 1 0; add 0 1 0 false; submit 0 0");
        refuses(copy, "submit 1 0", -3);
    }

    @Sentence("-4 if one of them owes something")
    private void oneOwes() {
        refuses(HELD.then("join 1 0 1 0"), "submit 1 0", -4);
        refuses(HELD.then("join 1 0 1 0; edit 1 0 0"), "submit 1 0", -4);
        refuses(HELD.then("join 1 1 0 0; edit 1 1 0"), "submit 1 0", -4);
        answers(HELD.then("join 1 0 1 0; edit 1 0 1"), "submit 1 1", 3);
        answers(HELD.then("join 1 0 1 0; resolve 1 1 1"), "submit 1 0", 3);
        Run both = HELD.then("join 1 0 1 0; edit 0 1 0; submit 0 0; sync 1 -1");
        refuses(both.then("resolve 1 1 1"), "submit 1 0", -4);
        answers(both.then("resolve 1 1 1; resolve 1 1 1"), "submit 1 0", 4);
    }

    @Sentence("-5 if there would be more than 48 revisions")
    private void moreThan48() {
        answers(OF_47.then("edit 0 0 0"), "submit 0 0", 48);
        answers(OF_48, "head 0", 47);
        answers(OF_48, "changes", 48);
        answers(OF_48, "revision 0 47 0", 48);
        refuses(OF_48.then("edit 0 0 0"), "submit 0 0", -5);
        refuses(OF_48.then("remove 0 0 0"), "submit 0 0", -5);
        refuses(OF_48.then("add 1 2 0 false"), "submit 1 0", -5);
        refuses(OF_47.then("edit 0 0 0; edit 0 1 0"), "submit 0 0", -5);
        answers(OF_46.then("edit 0 0 0; edit 0 1 0"), "submit 0 0", 47);
        refuses(OF_46.then("edit 0 0 0; edit 0 1 0; add 0 2 0 false"), "submit 0 0", -5);
        answers(OF_46.then("edit 0 0 0; edit 0 1 0; add 0 2 1 false"), "submit 0 0", 47);
    }

    @Sentence("there are at most 48 of all files together")
    private void lostRevisionsDoNotCount() {
        answers(OF_48.then("crash 1"), "submit 0 0", 48);
        refuses(OF_48.then("crash 1; submit 0 0; edit 0 0 0"), "submit 0 0", -5);
        answers(OF_48.then("edit 0 0 0; !submit 0 0; crash 2"), "submit 0 0", 48);
        answers(OF_48.then("crash 3; submit 0 0; edit 0 0 0"), "submit 0 0", 48);
    }

    @Sentence("there are at most 48 of all files together")
    private void fourOfEachOfTwelve() {
        Run run = Run.of("line ~>~; view 0 0 0");
        for (int file = 0; file < 12; file++) {
            run = run.then("file " + (char) ('a' + file) + "; add 0 " + file + " 0 false");
        }
        run = run.then("submit 0 0");
        for (int change = 2; change <= 4; change++) {
            for (int file = 0; file < 12; file++) {
                run = run.then("edit 0 " + file + " 0");
            }
            run = run.then("submit 0 0");
        }
        for (int file = 0; file < 12; file++) {
            answers(run, "head " + file, 4);
            answers(run, "revision " + file + " 4 0", 4);
        }
        refuses(run.then("edit 0 11 0"), "submit 0 0", -5);
    }

    @Sentence("Submits a client's list")
    private void onlyThisClientsTwelve() {
        Run run = Run.of("line ~>~; view 0 0 0; view 1 0 0; view 2 0 0");
        for (int file = 0; file < 12; file++) {
            run = run.then("file " + (char) ('a' + file));
            for (int client = 0; client < 3; client++) {
                run = run.then("add " + client + " " + file + " 0 false; store " + client + " " + file + " " + client);
            }
        }
        for (int client = 0; client < 3; client++) {
            Run submitted = run.then("submit " + client + " 0");
            for (int file = 0; file < 12; file++) {
                answers(submitted, "head " + file, 1);
                answers(submitted, "revision " + file + " 1 1", client);
                for (int other = 0; other < 3; other++) {
                    answers(submitted, "opened " + other + " " + file + " 0", other == client ? 0 : 1);
                }
            }
        }
    }

    @Sentence("the first that holds, in the order named, is answered")
    private void orderOfSubmit() {
        Run behindAndOwing = HELD.then("join 1 0 1 0; edit 1 0 0; edit 0 0 0; submit 0 0");
        refuses(behindAndOwing, "submit 1 0", -3);
        // It owes both, and its base is not its head.
        refuses(HELD.then("join 1 0 1 0; edit 0 1 0; submit 0 0; sync 1 -1"), "submit 1 0", -3);
        // The one that owes comes before the one that is behind.
        refuses(HELD.then("join 1 1 0 0; edit 1 1 0; edit 0 1 0; submit 0 0"), "submit 1 0", -3);
        Run behindAndFull = OF_47.then("sync 1 -1; edit 1 0 0; edit 0 0 0; submit 0 0");
        refuses(behindAndFull, "submit 1 0", -3);
        Run owingAndFull = OF_48.then("join 0 0 1 0");
        refuses(owingAndFull, "submit 0 0", -4);
        refuses(OF_48, "submit 0 0", -2);
        refuses(OF_48.then("edit 0 0 0"), "submit 0 2", -1);
        Run addAndFull = OF_47.then("add 1 2 0 false; add 0 2 0 false; submit 0 0");
        refuses(addAndFull, "submit 1 0", -3);
    }

    // ---- what it does

    @Sentence("one more than that of the latest one (1 for the first)")
    private void numbersOfChanges() {
        answers(SEEN.then("add 2 2 1 false"), "submit 2 1", 1);
        answers(ONE.then("add 2 2 1 false"), "submit 2 1", 2);
        answers(ONE.then("!submit 0 0; add 2 2 1 false"), "submit 2 1", 2);
        answers(ONE.then("crash 1"), "submit 0 0", 1);
        answers(HELD.then("edit 0 0 0; edit 0 1 0"), "submit 0 0", 3);
    }

    @Sentence("Each open file on the list, the lowest number first, gets a new revision by this change")
    private void eachFileOnTheList() {
        Run all = HELD.then("edit 0 0 1; store 0 0 15; remove 0 1 1; add 0 2 1 false; store 0 2 17; submit 0 1");
        for (int file = 0; file < 3; file++) {
            answers(all, "opened 0 " + file + " 0", 0);
            answers(all, "revision " + file + " " + (file < 2 ? 2 : 1) + " 0", 3);
        }
        answers(all, "revision 0 2 1", 15);
        answers(all, "revision 1 2 2", 1);
        answers(all, "revision 2 1 1", 17);
        answers(HELD.then("edit 0 0 1; view 0 0 -1"), "submit 0 1", 3);
        Run some = HELD.then("edit 0 0 1; edit 0 1 0; edit 1 0 1; submit 0 1");
        answers(some, "head 0", 2);
        answers(some, "head 1", 1);
        answers(some, "opened 0 1 0", 2);
        answers(some, "opened 1 0 0", 2);
    }

    @Sentence("the lowest number first")
    private void lowestNumberFirst() {
        // Each file is a copy of the other one: the second revision sees what the first one wrote.
        Run both = HELD.then("join 0 0 1 0; resolve 0 1 1; join 0 1 0 0; resolve 0 0 1; submit 0 0");
        answers(both, "joined 0 1", 2);
        answers(both, "joined 1 0", 2);
        answers(both, "joins", 2);
    }

    @Sentence("deleted if it is open for DELETE, else with text as content")
    private void deletedOrText() {
        Run deleted = HELD.then("remove 0 0 0; submit 0 0");
        answers(deleted, "revision 0 2 2", 1);
        answers(deleted, "revision 0 2 1", 0);
        answers(deleted, "head 0", 2);
        answers(deleted, "revision 0 1 2", 0);
        answers(HELD.then("edit 0 0 0; submit 0 0"), "revision 0 2 1", 5);
        answers(HELD.then("edit 0 0 0; submit 0 0"), "revision 0 2 2", 0);
        answers(HELD.then("edit 0 0 0; store 0 0 0; submit 0 0"), "revision 0 2 2", 0);
    }

    @Sentence("exclusive as it was opened if it is open for ADD, else as its latest revision")
    private void exclusiveOrNot() {
        Run exclusive = SEEN.then("add 0 0 0 true; submit 0 0");
        answers(exclusive, "revision 0 1 3", 1);
        answers(exclusive.then("edit 0 0 0; submit 0 0"), "revision 0 2 3", 1);
        Run deleted = exclusive.then("remove 0 0 0; submit 0 0");
        answers(deleted, "revision 0 2 3", 1);
        answers(deleted.then("add 0 0 0 false; submit 0 0"), "revision 0 3 3", 0);
        answers(deleted.then("add 0 0 0 true; submit 0 0"), "revision 0 3 3", 1);
        answers(deleted.then("add 0 0 0 false; submit 0 0; edit 0 0 0; submit 0 0"), "revision 0 4 3", 0);
        answers(ONE.then("edit 0 0 0; submit 0 0"), "revision 0 2 3", 0);
        answers(SEEN.then("add 0 0 0 true; revert 0 0; add 0 0 0 false; submit 0 0"), "revision 0 1 3", 0);
    }

    @Sentence("Have becomes that revision, or 0 if it is deleted")
    private void haveAfterwards() {
        answers(ONE, "have 0 0", 1);
        answers(ONE.then("edit 0 0 0; submit 0 0"), "have 0 0", 2);
        answers(ONE.then("remove 0 0 0; submit 0 0"), "have 0 0", 0);
        answers(ONE.then("remove 0 0 0; submit 0 0; add 0 0 0 false; submit 0 0"), "have 0 0", 3);
        answers(HELD.then("edit 0 0 0; submit 0 0"), "have 1 0", 1);
    }

    // ---- credits

    @Sentence("joined(f, file) becomes r if that is more, one more JOIN is written")
    private void joinedNeverFalls() {
        // Client 1 has a credit of revision 1, client 0 one of revision 2, or of revision 1 too.
        Run first = HELD.then("join 1 0 1 0; resolve 1 1 2");
        Run more = first.then("edit 0 0 0; submit 0 0; join 0 0 1 0; resolve 0 1 2; submit 0 0");
        answers(more, "joined 0 1", 2);
        answers(more, "joins", 1);
        Run less = more.then("sync 1 -1; resolve 1 1 2; submit 1 0");
        answers(less, "joined 0 1", 2);
        answers(less, "joins", 2);
        answers(less, "joined 1 0", 0);
        Run same = first.then("join 0 0 1 0; resolve 0 1 2; submit 0 0; sync 1 -1; resolve 1 1 2; submit 1 0");
        answers(same, "joined 0 1", 1);
        answers(same, "joins", 2);
        answers(HELD.then("edit 0 1 0; submit 0 0"), "joins", 0);
    }

    @Sentence("and if it is a copy, joined(file, f) becomes the new revision's number if that is more")
    private void joinedBackOfACopy() {
        Run copy = HELD.then("join 0 0 1 0; resolve 0 1 1; submit 0 0");
        answers(copy, "joined 1 0", 2);
        answers(copy, "joined 0 1", 1);
        Run merged = HELD.then("join 0 0 1 0; store 0 1 0; resolve 0 1 0; submit 0 0");
        answers(merged, "joined 1 0", 0);
        Run again = copy.then("edit 0 0 0; submit 0 0; join 0 0 1 0; resolve 0 1 1; submit 0 0");
        answers(again, "joined 1 0", 3);
        Run kept = copy.then("edit 0 0 0; submit 0 0; join 0 0 1 0; resolve 0 1 2; submit 0 0");
        answers(kept, "joined 1 0", 2);
        answers(kept, "joined 0 1", 2);
        // What was stored since does not make it less of a copy.
        answers(HELD.then("join 0 0 1 0; resolve 0 1 1; store 0 1 9; submit 0 0"), "joined 1 0", 2);
    }

    @Sentence("The files are open no more.")
    private void openNoMore() {
        Run submitted = HELD.then("edit 0 0 0; submit 0 0");
        for (int what = 1; what < 6; what++) {
            answers(submitted, "opened 0 0 " + what, NONE);
        }
        answers(submitted, "edit 0 0 1", 0);
        Run credited = HELD.then("join 0 0 1 0; resolve 0 1 1; submit 0 0; edit 0 1 0");
        answers(credited, "opened 0 1 5", NONE);
        answers(credited.then("submit 0 0"), "joins", 1);
        Run exclusive = SEEN.then("add 0 0 0 true; submit 0 0; remove 0 0 0; submit 0 0; add 0 0 0 false");
        answers(exclusive.then("submit 0 0; sync 1 -1; edit 0 0 0"), "edit 1 0 0", 0);
        Run byOther = SEEN.then("add 0 0 0 true; submit 0 0; remove 0 0 0; submit 0 0; add 1 0 0 false; submit 1 0");
        answers(byOther.then("sync 0 -1; edit 0 0 0"), "edit 1 0 0", 0);
    }
}
