/** The edges of promise 13. */
public final class JoinEdgesTest extends Edges {
    /** File 0 was joined into file 1, which was gone: a copy, which client 0 has. */
    private static final Run COPIED = ONE.then("join 0 0 1 0; submit 0 0");
    /** File 0 has an exclusive revision, which client 0 has. */
    private static final Run EXCLUSIVE = SEEN.then("add 0 0 0 true; store 0 0 5; submit 0 0");

    public static void main(String[] args) {
        new JoinEdgesTest().runAll();
    }

    // ---- what it does

    @Sentence("If 'to' is gone and not open: it is opened for ADD")
    private void intoWhatIsGone() {
        answers(ONE, "join 0 0 1 0", 1);
        answers(ONE.then("join 0 0 1 1"), "opened 0 1 0", 1);
        answers(ONE.then("join 0 0 1 1"), "opened 0 1 1", 1);
        Run deleted = COPIED.then("remove 0 1 0; submit 0 0; edit 0 0 0; store 0 0 7; submit 0 0");
        answers(deleted, "join 0 0 1 0", 1);
        answers(deleted.then("join 0 0 1 0"), "text 0 1", 7);
        answers(TWO, "join 0 0 1 0", 2);
    }

    @Sentence("exclusive if the head of 'from' is")
    private void exclusiveCopies() {
        answers(EXCLUSIVE.then("join 0 0 1 0; submit 0 0"), "revision 1 1 3", 1);
        answers(ONE.then("join 0 0 1 0; submit 0 0"), "revision 1 1 3", 0);
        Run plainAgain = EXCLUSIVE.then("remove 0 0 0; submit 0 0; add 0 0 0 false; submit 0 0");
        answers(plainAgain.then("join 0 0 1 0; submit 0 0"), "revision 1 1 3", 0);
        Run exclusiveNow = ONE.then("remove 0 0 0; submit 0 0; add 0 0 0 true; submit 0 0");
        answers(exclusiveNow.then("join 0 0 1 0; submit 0 0"), "revision 1 1 3", 1);
    }

    @Sentence("with base 0 and the content of that head as text, and gets the credit of 'from', its head, a copy: 1")
    private void whatACopyLeaves() {
        Run copy = ONE.then("edit 0 0 0; store 0 0 6; submit 0 0; join 1 0 1 0");
        answers(copy, "opened 1 1 2", 0);
        answers(copy, "text 1 1", 6);
        answers(copy, "have 1 1", 0);
        answers(copy, "opened 1 1 3", 0);
        answers(copy, "opened 1 1 4", NONE);
        answers(copy, "opened 1 1 5", 0);
        answers(copy.then("submit 1 0"), "joined 0 1", 2);
        answers(copy.then("submit 1 0"), "joined 1 0", 1);
        // The credit is of the head at the time of the join, not of the submit.
        answers(copy.then("edit 0 0 0; submit 0 0; submit 1 0"), "joined 0 1", 2);
    }

    @Sentence("Otherwise it is opened for EDIT, with base have, if it is not open, and owes the join of 'from' and its head: 2")
    private void intoWhatIsHeld() {
        answers(TWO.then("join 1 0 1 1"), "opened 1 1 0", 2);
        answers(TWO.then("join 1 0 1 1"), "opened 1 1 1", 1);
        answers(TWO.then("join 1 0 1 1"), "opened 1 1 2", 1);
        answers(TWO.then("join 1 0 1 1"), "opened 1 1 4", 0);
        answers(TWO.then("join 1 0 1 1"), "opened 1 1 5", NONE);
        answers(TWO.then("join 1 0 1 1"), "text 1 1", 6);
    }

    @Sentence("(an open file stays on its list)")
    private void intoWhatIsOpen() {
        answers(TWO.then("edit 1 1 0"), "join 1 0 1 1", 2);
        answers(TWO.then("edit 1 1 0; join 1 0 1 1"), "opened 1 1 1", 0);
        answers(TWO.then("edit 1 1 1; join 1 0 1 0"), "opened 1 1 1", 1);
        // 'to' is gone, but open: it is no copy.
        Run open = TWO.then("edit 1 1 1; store 1 1 9; remove 0 1 0; submit 0 0");
        answers(open, "join 1 0 1 0", 2);
        answers(open.then("join 1 0 1 0"), "opened 1 1 0", 2);
        answers(open.then("join 1 0 1 0"), "text 1 1", 9);
        // Open at another client only: it is opened here.
        answers(TWO.then("edit 0 1 0; join 1 0 1 1"), "opened 1 1 1", 1);
    }

    // ---- refusals

    @Sentence("No such client, file, list, slot or line is always -1, or false, and comes first.")
    private void noSuch() {
        for (String no : new String[] {"-1", "3", "12", "MIN", "MAX"}) {
            refuses(ONE, "join " + no + " 0 1 0", -1);
            refuses(ONE, "join 0 " + no + " 1 0", -1);
            refuses(ONE, "join 0 0 " + no + " 0", -1);
            refuses(ONE, "join 0 0 1 " + no, -1);
        }
        refuses(ONE, "join 0 0 1 2", -1);
        answers(ONE, "join 2 0 2 1", 1);
    }

    @Sentence("-1 also if both are the same")
    private void bothTheSame() {
        refuses(ONE, "join 0 0 0 0", -1);
        refuses(ONE, "join 0 1 1 0", -1);
        refuses(ONE, "join 1 2 2 1", -1);
    }

    @Sentence("-2 if 'to' is not mapped")
    private void toIsNotMapped() {
        refuses(ONE.then("view 0 0 -1"), "join 0 0 1 0", -2);
        refuses(TWO.then("line -b; view 0 1 1"), "join 0 0 1 0", -2);
        refuses(ONE.then("line b>a; view 0 1 1"), "join 0 0 1 0", -2);
        answers(ONE.then("line -a; view 0 1 1"), "join 0 0 1 0", 1);
        answers(TWO.then("line -a; view 0 1 1"), "join 0 0 1 0", 2);
    }

    @Sentence("-3 if 'from' is gone")
    private void fromIsGone() {
        refuses(SEEN, "join 0 0 1 0", -3);
        refuses(ONE.then("remove 0 0 0; submit 0 0"), "join 0 0 1 0", -3);
        answers(ONE.then("remove 0 0 0; submit 0 0; add 0 0 0 false; submit 0 0"), "join 0 0 1 0", 1);
        answers(ONE.then("remove 0 0 0"), "join 0 0 1 0", 1);
    }

    @Sentence("-4 if joined(from, to) is the head of 'from'")
    private void joinedAlready() {
        refuses(COPIED, "join 0 0 1 0", -4);
        refuses(COPIED, "join 0 1 0 0", -4);
        answers(COPIED, "join 0 0 2 0", 1);
        answers(COPIED.then("edit 0 0 0; submit 0 0"), "join 0 0 1 0", 2);
        answers(COPIED.then("edit 0 1 0; submit 0 0"), "join 0 1 0 0", 2);
        answers(COPIED.then("crash 1; revert 0 1"), "join 0 0 1 0", 1);
        Run merged = TWO.then("join 0 0 1 0; resolve 0 1 2; submit 0 0");
        refuses(merged, "join 0 0 1 0", -4);
        answers(merged, "join 0 1 0 0", 2);
    }

    @Sentence("-5 if 'to' is open at this client otherwise than for EDIT")
    private void openOtherwise() {
        refuses(ONE.then("add 0 1 0 false"), "join 0 0 1 0", -5);
        refuses(ONE.then("join 0 0 1 0"), "join 0 0 1 0", -5);
        refuses(TWO.then("remove 0 1 0"), "join 0 0 1 0", -5);
        answers(TWO.then("edit 0 1 0"), "join 0 0 1 0", 2);
        answers(ONE.then("add 1 1 0 false"), "join 0 0 1 0", 1);
        answers(TWO.then("remove 1 1 0"), "join 0 0 1 0", 2);
    }

    @Sentence("or owes a join or has a credit")
    private void owesOrHasACredit() {
        Run three = TWO.then("add 0 2 0 false; submit 0 0");
        refuses(three.then("join 0 0 1 0"), "join 0 0 1 0", -5);
        refuses(three.then("join 0 0 1 0"), "join 0 2 1 0", -5);
        for (int how = 0; how < 3; how++) {
            Run credit = three.then("join 0 2 1 0; resolve 0 1 " + how);
            refuses(credit, "join 0 0 1 0", -5);
            refuses(credit, "join 0 2 1 0", -5);
        }
        answers(three.then("join 0 0 1 0; revert 0 1"), "join 0 0 1 0", 2);
        answers(three.then("join 1 0 1 0"), "join 0 0 1 0", 2);
        Run owesUpdate = TWO.then("edit 1 1 0; edit 0 1 0; submit 0 0; sync 1 -1");
        answers(owesUpdate, "opened 1 1 3", 2);
        answers(owesUpdate, "join 1 0 1 0", 2);
    }

    @Sentence("-6 if it is not open, and have is not its head or, if it is gone, not 0")
    private void haveIsNotTheHead() {
        refuses(TWO, "join 2 0 1 0", -6);
        Run newer = TWO.then("edit 0 1 0; submit 0 0");
        refuses(newer, "join 1 0 1 0", -6);
        answers(newer, "join 0 0 1 0", 2);
        answers(newer.then("sync 1 -1"), "join 1 0 1 0", 2);
        refuses(newer.then("sync 0 2"), "join 0 0 1 0", -6);
        Run gone = TWO.then("remove 0 1 0; submit 0 0");
        refuses(gone, "join 1 0 1 0", -6);
        answers(gone, "join 0 0 1 0", 1);
        answers(gone, "join 2 0 1 0", 1);
        answers(gone.then("sync 1 -1"), "join 1 0 1 0", 1);
        // What is open need not have the head.
        answers(newer.then("edit 1 1 0"), "join 1 0 1 0", 2);
        answers(gone.then("edit 1 1 0"), "join 1 0 1 0", 2);
    }

    @Sentence("-7 if it is not open and to open it would be hindered")
    private void wouldBeHindered() {
        refuses(EXCLUSIVE.then("add 1 1 0 false"), "join 0 0 1 0", -7);
        refuses(ONE.then("add 1 1 0 true"), "join 0 0 1 0", -7);
        answers(ONE.then("add 1 1 0 false"), "join 0 0 1 0", 1);
        refuses(EXCLUSIVE.then("join 1 0 1 0"), "join 0 0 1 0", -7);
        answers(EXCLUSIVE, "join 0 0 1 0", 1);
        Run exclusiveTo = ONE.then("add 0 1 0 true; submit 0 0; sync 1 -1");
        refuses(exclusiveTo.then("edit 0 1 0"), "join 1 0 1 0", -7);
        answers(exclusiveTo, "join 1 0 1 0", 2);
        refuses(exclusiveTo.then("remove 0 1 0; submit 0 0; sync 1 -1; add 0 1 0 false"), "join 1 0 1 0", -7);
        // To open for EDIT is not hindered by what 'from' is.
        Run held = EXCLUSIVE.then("add 0 1 0 false; submit 0 0; sync 1 -1; edit 1 1 0");
        answers(held, "join 0 0 1 0", 2);
        // What is open is not opened, even if it is gone and would be copied as exclusive.
        answers(held.then("edit 0 1 0"), "join 0 0 1 0", 2);
        answers(held.then("edit 0 1 0; sync 2 -1; remove 2 1 0; submit 2 0"), "join 0 0 1 0", 2);
    }

    // ---- the order of the refusals

    @Sentence("the first that holds, in the order named, is answered")
    private void bothTheSameComesFirst() {
        refuses(ONE.then("view 0 0 -1"), "join 0 0 0 0", -1);
        refuses(SEEN, "join 0 0 0 0", -1);
        refuses(ONE.then("remove 0 0 0"), "join 0 0 0 0", -1);
        refuses(ONE, "join 1 0 0 0", -1);
        refuses(SEEN.then("view 0 0 -1"), "join 0 0 1 2", -1);
    }

    @Sentence("the first that holds, in the order named, is answered")
    private void notMappedComesNext() {
        refuses(SEEN.then("view 0 0 -1"), "join 0 0 1 0", -2);
        refuses(COPIED.then("view 0 0 -1"), "join 0 0 1 0", -2);
        refuses(ONE.then("add 0 1 0 false; view 0 0 -1"), "join 0 0 1 0", -2);
        refuses(TWO.then("view 2 0 -1"), "join 2 0 1 0", -2);
        refuses(ONE.then("add 1 1 0 true; view 0 0 -1"), "join 0 0 1 0", -2);
    }

    @Sentence("the first that holds, in the order named, is answered")
    private void fromGoneComesNext() {
        // No revision of either file: joined(0, 1) is 0, as the head of file 0 is.
        answers(SEEN, "joined 0 1", 0);
        refuses(SEEN, "join 0 0 1 0", -3);
        refuses(SEEN.then("add 0 1 0 false"), "join 0 0 1 0", -3);
        refuses(TWO, "join 2 2 1 0", -3);
        refuses(SEEN.then("add 1 1 0 true"), "join 0 0 1 0", -3);
    }

    @Sentence("the first that holds, in the order named, is answered")
    private void joinedComesNext() {
        refuses(COPIED.then("remove 0 1 0"), "join 0 0 1 0", -4);
        refuses(COPIED, "join 1 0 1 0", -4);
        Run exclusive = EXCLUSIVE.then("join 0 0 1 0; submit 0 0; sync 1 -1; edit 0 1 0");
        refuses(exclusive, "join 1 0 1 0", -4);
    }

    @Sentence("the first that holds, in the order named, is answered")
    private void haveComesBeforeHindered() {
        Run exclusive = ONE.then("add 0 1 0 true; submit 0 0; edit 0 1 0");
        refuses(exclusive, "join 1 0 1 0", -6);
        refuses(TWO.then("remove 0 1 0; submit 0 0; add 0 1 0 true"), "join 1 0 1 0", -6);
    }
}
