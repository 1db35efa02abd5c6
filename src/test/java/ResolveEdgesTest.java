/** The edges of promise 14, and of merging. */
public final class ResolveEdgesTest extends Edges {
    /** Client 1 has file 0 open for EDIT by revision 1, with text 5, and owes the update to revision 2, content 6. */
    private static final Run UPDATE = ONE.then("sync 1 -1; edit 1 0 0; edit 0 0 0; store 0 0 6; submit 0 0; sync 1 -1");
    /** Client 1 has file 1 open for EDIT, with text 6, and owes the join of file 0, content 5. */
    private static final Run JOIN = TWO.then("join 1 0 1 0");

    public static void main(String[] args) {
        new ResolveEdgesTest().runAll();
    }

    // ---- refusals

    @Sentence("No such client, file, list, slot or line is always -1, or false, and comes first.")
    private void noSuch() {
        for (String no : new String[] {"-1", "3", "12", "MIN", "MAX"}) {
            refuses(UPDATE, "resolve " + no + " 0 1", -1);
            refuses(UPDATE, "resolve 1 " + no + " 1", -1);
        }
    }

    @Sentence("-1 also if how is not 0 .. 2")
    private void how() {
        for (String no : new String[] {"-1", "3", "MIN", "MAX"}) {
            refuses(UPDATE, "resolve 1 0 " + no, -1);
            refuses(JOIN, "resolve 1 1 " + no, -1);
        }
        for (int how = 0; how < 3; how++) {
            answers(UPDATE, "resolve 1 0 " + how, 0);
        }
    }

    @Sentence("-2 if it is not open or owes nothing")
    private void nothingIsOwed() {
        for (int how = 0; how < 3; how++) {
            refuses(UPDATE, "resolve 0 0 " + how, -2);
            refuses(UPDATE, "resolve 1 1 " + how, -2);
            refuses(ONE.then("edit 0 0 0"), "resolve 0 0 " + how, -2);
            refuses(ONE.then("remove 0 0 0"), "resolve 0 0 " + how, -2);
            refuses(ONE.then("add 0 1 0 false"), "resolve 0 1 " + how, -2);
            refuses(ONE.then("join 0 0 1 0"), "resolve 0 1 " + how, -2);
            refuses(UPDATE.then("resolve 1 0 1"), "resolve 1 0 " + how, -2);
            refuses(JOIN.then("resolve 1 1 1"), "resolve 1 1 " + how, -2);
            refuses(UPDATE.then("revert 1 0"), "resolve 1 0 " + how, -2);
        }
    }

    @Sentence("the first that holds, in the order named, is answered")
    private void howComesBeforeNothingOwed() {
        refuses(ONE, "resolve 0 0 3", -1);
        refuses(ONE.then("edit 0 0 0"), "resolve 0 0 -1", -1);
        refuses(SEEN, "resolve 3 0 0", -1);
    }

    @Sentence("-3 if how is 0 and a digit clashes")
    private void clashes() {
        Run clash = UPDATE.then("store 1 0 7");
        refuses(clash, "resolve 1 0 0", -3);
        answers(clash, "resolve 1 0 1", 0);
        answers(clash, "resolve 1 0 2", 0);
        // Content 5 of file 0 and content 6 of file 1 by a base that is 0.
        refuses(JOIN, "resolve 1 1 0", -3);
        answers(JOIN, "resolve 1 1 1", 0);
        answers(JOIN, "resolve 1 1 2", 0);
        refuses(JOIN.then("!resolve 1 1 0"), "resolve 1 1 0", -3);
    }

    // ---- merging

    /** A run that leaves client 1 owing an update of file 0, with these contents. */
    private static Run owing(int base, int yours, int theirs) {
        return SEEN.then("add 0 0 0 false; store 0 0 " + base + "; submit 0 0; sync 1 -1; edit 1 0 0; store 1 0 " + yours
            + "; edit 0 0 0; store 0 0 " + theirs + "; submit 0 0; sync 1 -1");
    }

    private void merges(int base, int yours, int theirs, int want) {
        Run run = owing(base, yours, theirs);
        answers(run, "resolve 1 0 0", 0);
        answers(run.then("resolve 1 0 0"), "text 1 0", want);
    }

    @Sentence("yours, if theirs is the same as the base or as yours")
    private void yoursIsTaken() {
        for (int shift = 0; shift < 32; shift += 4) {
            merges(3 << shift, 7 << shift, 3 << shift, 7 << shift);
            merges(3 << shift, 7 << shift, 7 << shift, 7 << shift);
            merges(15 << shift, 0, 15 << shift, 0);
            merges(0, 15 << shift, 0, 15 << shift);
        }
    }

    @Sentence("else theirs, if yours is the same as the base")
    private void theirsIsTaken() {
        for (int shift = 0; shift < 32; shift += 4) {
            merges(3 << shift, 3 << shift, 7 << shift, 7 << shift);
            merges(15 << shift, 15 << shift, 0, 0);
            merges(0, 0, 15 << shift, 15 << shift);
        }
        merges(0, 0, Integer.MIN_VALUE, Integer.MIN_VALUE);
        merges(-1, -1, Integer.MAX_VALUE, Integer.MAX_VALUE);
    }

    @Sentence("else they CLASH")
    private void eachDigitCanClash() {
        for (int shift = 0; shift < 32; shift += 4) {
            refuses(owing(0, 1 << shift, 2 << shift), "resolve 1 0 0", -3);
            refuses(owing(3 << shift, 7 << shift, 11 << shift), "resolve 1 0 0", -3);
            refuses(owing(15 << shift, 14 << shift, 7 << shift), "resolve 1 0 0", -3);
        }
        // All the other digits can be merged.
        refuses(owing(0x11111111, 0x11112111, 0x22223222), "resolve 1 0 0", -3);
    }

    @Sentence("each is eight DIGITS of four bits")
    private void digitByDigit() {
        merges(0x00000000, 0x10203040, 0x01020304, 0x11223344);
        merges(0xFFFFFFFF, 0x0FFFFFFF, 0xFFFFFFF0, 0x0FFFFFF0);
        // Bits of one digit are not merged one by one.
        refuses(owing(0, 1, 2), "resolve 1 0 0", -3);
        refuses(owing(0, 0x10000000, 0x20000000), "resolve 1 0 0", -3);
        merges(0, 0x10, 0x02, 0x12);
    }

    // ---- what is resolved, and by what

    @Sentence("the update, if it owes one, else the join")
    private void updateBeforeJoin() {
        Run both = TWO.then("join 1 0 1 0; edit 0 1 0; store 0 1 7; submit 0 0; sync 1 -1");
        answers(both.then("resolve 1 1 1"), "text 1 1", 7);
        answers(both.then("resolve 1 1 1"), "opened 1 1 3", 0);
        answers(both.then("resolve 1 1 1"), "opened 1 1 4", 0);
        answers(both.then("resolve 1 1 1"), "opened 1 1 5", NONE);
        answers(both.then("resolve 1 1 1; resolve 1 1 1"), "text 1 1", 5);
        answers(both.then("resolve 1 1 1; resolve 1 1 1"), "opened 1 1 4", NONE);
        answers(both.then("resolve 1 1 1; resolve 1 1 1"), "opened 1 1 5", 0);
        refuses(both.then("resolve 1 1 1; resolve 1 1 1"), "resolve 1 1 1", -2);
    }

    @Sentence("THEIRS is the content of the revision owed")
    private void theirsIsWhatWasOwed() {
        Run later = UPDATE.then("edit 0 0 0; store 0 0 8; submit 0 0");
        answers(later.then("resolve 1 0 1"), "text 1 0", 6);
        answers(later.then("resolve 1 0 1"), "have 1 0", 2);
        Run laterFrom = JOIN.then("edit 0 0 0; store 0 0 8; submit 0 0");
        answers(laterFrom.then("resolve 1 1 1"), "text 1 1", 5);
        answers(laterFrom.then("resolve 1 1 1; submit 1 0"), "joined 0 1", 1);
        Run deletedFrom = JOIN.then("remove 0 0 0; submit 0 0");
        answers(deletedFrom.then("resolve 1 1 1"), "text 1 1", 5);
    }

    @Sentence("the content of the revision BASE of the file for an update")
    private void baseOfAnUpdate() {
        // Base 5, yours 5, theirs 6; then base 6, yours 6, theirs 7.
        Run twice = UPDATE.then("resolve 1 0 0; edit 0 0 0; store 0 0 7; submit 0 0; sync 1 -1");
        answers(twice.then("resolve 1 0 0"), "text 1 0", 7);
        // Base 6 after yours was kept: 5 is a change, and 7 another one.
        Run kept = UPDATE.then("resolve 1 0 2; edit 0 0 0; store 0 0 7; submit 0 0; sync 1 -1");
        refuses(kept, "resolve 1 0 0", -3);
    }

    @Sentence("of revision joined(from, file) of 'from' for a join")
    private void baseOfAJoin() {
        Run copied = ONE.then("join 0 0 1 0; submit 0 0; edit 0 0 0; store 0 0 7; submit 0 0; join 0 0 1 0");
        answers(copied.then("resolve 0 1 0"), "text 0 1", 7);
        refuses(copied.then("store 0 1 6"), "resolve 0 1 0", -3);
        // joined(0, 1) is 2 and joined(1, 0) is 1: the base is revision 2 of file 0.
        Run second = ONE.then("edit 0 0 0; store 0 0 6; submit 0 0; join 0 0 1 0; submit 0 0; edit 0 0 0; store 0 0 7; "
            + "submit 0 0; join 0 0 1 0");
        answers(second.then("resolve 0 1 0"), "text 0 1", 7);
        refuses(second.then("store 0 1 5"), "resolve 0 1 0", -3);
        // Nothing was joined before: the base is the content of revision 0.
        Run first = TWO.then("join 1 0 1 0; store 1 1 0");
        answers(first.then("resolve 1 1 0"), "text 1 1", 5);
        answers(first.then("store 1 1 0x10; resolve 1 1 0"), "text 1 1", 0x15);
        answers(first.then("store 1 1 5; resolve 1 1 0"), "text 1 1", 5);
    }

    @Sentence("The content of revision 0, and of a deleted one, counts as 0.")
    private void contentOfRevision0() {
        Run deleted = ONE.then("remove 0 0 0; submit 0 0");
        answers(deleted, "revision 0 2 1", 0);
        answers(deleted, "text 0 0", 0);
        answers(TWO.then("join 1 0 1 0; store 1 1 0x500; resolve 1 1 0"), "text 1 1", 0x505);
        answers(SEEN.then("add 0 0 0 false; store 0 0 9; revert 0 0"), "text 0 0", 0);
    }

    // ---- what it leaves

    @Sentence("How 0: text becomes the merge; 1: theirs; 2: it stays.")
    private void textAfterwards() {
        Run owing = owing(0x000, 0x100, 0x001);
        answers(owing.then("resolve 1 0 0"), "text 1 0", 0x101);
        answers(owing.then("resolve 1 0 1"), "text 1 0", 0x001);
        answers(owing.then("resolve 1 0 2"), "text 1 0", 0x100);
        Run clash = UPDATE.then("store 1 0 7");
        answers(clash.then("resolve 1 0 1"), "text 1 0", 6);
        answers(clash.then("resolve 1 0 2"), "text 1 0", 7);
    }

    @Sentence("for an update, base and have become that revision")
    private void afterAnUpdate() {
        for (int how = 0; how < 3; how++) {
            Run resolved = UPDATE.then("resolve 1 0 " + how);
            answers(resolved, "opened 1 0 2", 2);
            answers(resolved, "have 1 0", 2);
            answers(resolved, "opened 1 0 3", 0);
            answers(resolved, "opened 1 0 5", NONE);
            answers(resolved, "submit 1 0", 3);
            answers(resolved.then("submit 1 0"), "joins", 0);
        }
        // A credit that is no copy does not become one by an update.
        Run credited = JOIN.then("resolve 1 1 2; edit 0 1 0; submit 0 0; sync 1 -1; resolve 1 1 1; submit 1 0");
        answers(credited, "joined 0 1", 1);
        answers(credited, "joined 1 0", 0);
    }

    @Sentence("Refused: -1 also if how is not 0 .. 2; -2 if it is not open or owes nothing; -3 if how is 0 and a digit clashes.")
    private void whatIsNotMapped() {
        answers(UPDATE.then("view 1 0 -1"), "resolve 1 0 0", 0);
        answers(JOIN.then("view 1 0 -1"), "resolve 1 1 1", 0);
    }

    @Sentence("for a join, it gets the credit of that file and revision, a copy if how is 1")
    private void afterAJoin() {
        for (int how = 0; how < 3; how++) {
            Run resolved = JOIN.then("store 1 1 0; resolve 1 1 " + how);
            answers(resolved, "opened 1 1 2", 1);
            answers(resolved, "have 1 1", 1);
            answers(resolved, "opened 1 1 4", NONE);
            answers(resolved, "opened 1 1 5", 0);
            answers(resolved.then("submit 1 0"), "joined 0 1", 1);
            answers(resolved.then("submit 1 0"), "joined 1 0", how == 1 ? 2 : 0);
            answers(resolved.then("submit 1 0"), "joins", 1);
        }
    }
}
