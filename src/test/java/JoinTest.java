/** Promise 13, resolve (14) of joins, and what submit (15) makes of credits. */
public final class JoinTest {
    private static final Check CHECK = new Check("JoinTest");

    public static void main(String[] args) {
        noSuch();
        copyIntoGone();
        intoOpenAndGone();
        mergeIntoHeld();
        refusals();
        hindered();
        resolveByWhatWasJoined();
        updateBeforeJoin();
        joinedNeverFalls();
        CHECK.end();
    }

    private static void noSuch() {
        DepotServer x = Check.depot(2);
        Check.put(x, 0, 5);
        int before = x.journal();
        int[][] wrong = {{-1, 0, 1, 0}, {3, 0, 1, 0}, {0, -1, 1, 0}, {0, 2, 1, 0}, {0, 0, -1, 0}, {0, 0, 2, 0},
            {0, 0, 1, -1}, {0, 0, 1, 2}, {0, 0, 0, 0}, {0, 1, 1, 0}};
        for (int[] w : wrong) {
            String with = w[0] + ", " + w[1] + ", " + w[2] + ", " + w[3];
            CHECK.due("join(" + with + ")", x.join(w[0], w[1], w[2], w[3]), -1);
        }
        CHECK.due("refused joins are no records", x.journal(), before);
    }

    private static void copyIntoGone() {
        DepotServer x = Check.depot(3);
        Check.put(x, 0, 5);
        Check.change(x, 0, 0, 6);
        int before = x.journal();
        CHECK.due("join into a file without revisions", x.join(1, 0, 1, 1), 1);
        CHECK.due("join is a record", x.journal(), before + 1);
        CHECK.opened(x, 1, 1, 1, 1, 0, 0, -1, 0);
        CHECK.due("text", x.text(1, 1), 6);
        CHECK.due("resolve of a copy", x.resolve(1, 1, 0), -2);
        CHECK.due("store into it", x.store(1, 1, 7), true);
        CHECK.due("submit", x.submit(1, 1), 3);
        CHECK.due("content", x.revision(1, 1, 1), 7);
        CHECK.due("exclusive", x.revision(1, 1, 3), 0);
        joined(x, 0, 1, 2, 1);
        CHECK.due("joins", x.joins(), 1);
        CHECK.due("have", x.have(1, 1), 1);
        CHECK.due("join again", x.join(1, 0, 1, 1), -4);
        CHECK.due("join back", x.join(0, 1, 0, 0), -4);
        Check.drop(x, 1, 1);
        Check.change(x, 0, 0, 8);
        CHECK.due("join into a deleted file", x.join(2, 0, 1, 0), 1);
        CHECK.due("submit", x.submit(2, 0), 6);
        CHECK.due("content", x.revision(1, 3, 1), 8);
        joined(x, 0, 1, 3, 3);
        x.add(0, 2, 0, true);
        x.submit(0, 0);
        Check.drop(x, 2, 1);
        CHECK.due("join of an exclusive file", x.join(2, 2, 1, 0), 1);
        x.submit(2, 0);
        CHECK.due("exclusive as 'from' is", x.revision(1, 5, 3), 1);
    }

    private static void intoOpenAndGone() {
        DepotServer x = Check.depot(2);
        Check.put(x, 0, 5);
        Check.put(x, 1, 6);
        x.sync(1, -1);
        x.edit(1, 1, 1);
        Check.drop(x, 0, 1);
        CHECK.due("join into a file that is gone but open for EDIT", x.join(1, 0, 1, 0), 2);
        CHECK.opened(x, 1, 1, 2, 1, 1, 0, 0, -1);
        CHECK.due("text stays", x.text(1, 1), 6);
    }

    private static void mergeIntoHeld() {
        DepotServer x = Check.depot(3);
        Check.put(x, 0, 0x10);
        Check.put(x, 1, 0x01);
        Check.put(x, 2, 0x100);
        CHECK.due("join into a held file", x.join(0, 0, 1, 1), 2);
        CHECK.opened(x, 0, 1, 2, 1, 1, 0, 0, -1);
        CHECK.due("text stays until resolved", x.text(0, 1), 0x01);
        CHECK.due("submit while it owes", x.submit(0, 1), -4);
        CHECK.due("join of another while it owes", x.join(0, 2, 1, 1), -5);
        CHECK.due("resolve 0", x.resolve(0, 1, 0), 0);
        CHECK.due("text is merged", x.text(0, 1), 0x11);
        CHECK.opened(x, 0, 1, 2, 1, 1, 0, -1, 0);
        CHECK.due("join of another beside a credit", x.join(0, 2, 1, 1), -5);
        CHECK.due("resolve again", x.resolve(0, 1, 0), -2);
        CHECK.due("submit", x.submit(0, 1), 4);
        CHECK.due("content", x.revision(1, 2, 1), 0x11);
        joined(x, 0, 1, 1, 0);
        x.edit(0, 1, 1);
        CHECK.due("join into an open file", x.join(0, 2, 1, 0), 2);
        CHECK.opened(x, 0, 1, 2, 1, 2, 0, 2, -1);
        CHECK.due("resolve 1", x.resolve(0, 1, 1), 0);
        CHECK.due("text is theirs", x.text(0, 1), 0x100);
        CHECK.due("submit", x.submit(0, 1), 5);
        joined(x, 2, 1, 1, 3);
        CHECK.due("joins", x.joins(), 2);
        x.join(0, 1, 0, 0);
        CHECK.due("resolve 2", x.resolve(0, 0, 2), 0);
        CHECK.due("text stays", x.text(0, 0), 0x10);
        CHECK.due("submit", x.submit(0, 0), 6);
        joined(x, 1, 0, 3, 1);
        CHECK.due("joins", x.joins(), 3);
    }

    private static void refusals() {
        DepotServer x = Check.depot(4);
        CHECK.due("join of a file without revisions", x.join(0, 0, 1, 0), -3);
        Check.put(x, 0, 5);
        x.view(1, 0, -1);
        CHECK.due("not mapped", x.join(1, 0, 1, 0), -2);
        CHECK.due("not mapped before gone", x.join(1, 2, 1, 0), -2);
        x.view(1, 0, 0);
        Check.line(x, "-a");
        x.view(0, 1, 1);
        CHECK.due("'from' need not be mapped", x.join(0, 0, 1, 0), 1);
        CHECK.due("open for ADD", x.join(0, 0, 1, 0), -5);
        x.submit(0, 0);
        x.remove(0, 1, 0);
        CHECK.due("joined before open for DELETE", x.join(0, 0, 1, 0), -4);
        x.view(0, 1, -1);
        Check.change(x, 0, 0, 6);
        CHECK.due("open for DELETE", x.join(0, 0, 1, 0), -5);
        CHECK.due("have is not the head", x.join(2, 0, 1, 0), -6);
        x.sync(2, -1);
        x.revert(0, 1);
        Check.change(x, 0, 1, 7);
        CHECK.due("have is behind the head", x.join(2, 0, 1, 0), -6);
        x.sync(2, -1);
        Check.drop(x, 0, 1);
        CHECK.due("have is not 0 and the file is gone", x.join(2, 0, 1, 0), -6);
        x.sync(2, -1);
        CHECK.due("have is 0 and the file is gone", x.join(2, 0, 1, 0), 1);
        Check.drop(x, 0, 0);
        CHECK.due("'from' is deleted", x.join(0, 0, 3, 0), -3);
    }

    private static void hindered() {
        DepotServer x = Check.depot(3);
        x.add(0, 0, 0, true);
        x.submit(0, 0);
        x.add(1, 1, 0, false);
        CHECK.due("an exclusive copy beside another's add", x.join(0, 0, 1, 0), -7);
        x.sync(2, 0);
        x.revert(1, 1);
        CHECK.due("an exclusive copy", x.join(0, 0, 1, 0), 1);
        CHECK.due("an add beside an exclusive copy", x.add(1, 1, 0, false), -5);
        CHECK.due("a copy beside an exclusive copy", x.join(1, 0, 1, 0), -7);
        x.revert(0, 1);
        Check.put(x, 2, 5);
        x.add(1, 1, 0, false);
        CHECK.due("a copy beside another's add", x.join(0, 2, 1, 0), 1);
        x.revert(0, 1);
        x.revert(1, 1);
        x.sync(1, -1);
        CHECK.due("join into an exclusive file", x.join(0, 2, 0, 0), 2);
        CHECK.due("another's join into it", x.join(1, 2, 0, 0), -7);
        x.sync(2, 1);
        CHECK.due("have comes before hindered", x.join(2, 0, 2, 0), -6);
        x.sync(2, -1);
        x.edit(2, 2, 0);
        CHECK.due("an exclusive 'from' does not hinder an edit", x.join(0, 0, 2, 1), 2);
    }

    private static void resolveByWhatWasJoined() {
        DepotServer x = Check.depot(2);
        Check.put(x, 0, 0x1111);
        x.join(0, 0, 1, 0);
        x.submit(0, 0);
        Check.change(x, 0, 1, 0x1112);
        Check.change(x, 0, 0, 0x2111);
        x.join(0, 0, 1, 0);
        CHECK.due("the base is the revision joined before", x.resolve(0, 1, 0), 0);
        CHECK.due("text", x.text(0, 1), 0x2112);
        x.submit(0, 0);
        Check.change(x, 0, 0, 0x3111);
        x.join(0, 0, 1, 0);
        x.store(0, 1, 0x4112);
        CHECK.due("a clash", x.resolve(0, 1, 0), -3);
        CHECK.due("it still owes the join", x.opened(0, 1, 4), 0);
        CHECK.due("no credit", x.opened(0, 1, 5), -1);
        Check.change(x, 0, 0, 0x5111);
        CHECK.due("theirs is the revision that was the head", x.resolve(0, 1, 1), 0);
        CHECK.due("text", x.text(0, 1), 0x3111);
        x.submit(0, 0);
        joined(x, 0, 1, 3, 4);
        CHECK.due("the later revision can be joined", x.join(0, 0, 1, 0), 2);
        Check.drop(x, 0, 0);
        CHECK.due("resolve after 'from' was deleted", x.resolve(0, 1, 0), 0);
        CHECK.due("text", x.text(0, 1), 0x5111);
        x.submit(0, 0);
        joined(x, 0, 1, 4, 4);
    }

    private static void updateBeforeJoin() {
        DepotServer x = Check.depot(2);
        Check.put(x, 0, 0x10);
        Check.put(x, 1, 0x01);
        x.sync(1, -1);
        x.join(1, 0, 1, 0);
        Check.change(x, 0, 1, 0x02);
        x.sync(1, -1);
        CHECK.opened(x, 1, 1, 2, 0, 1, 2, 0, -1);
        CHECK.due("resolve the update", x.resolve(1, 1, 0), 0);
        CHECK.opened(x, 1, 1, 2, 0, 2, 0, 0, -1);
        CHECK.due("text", x.text(1, 1), 0x02);
        CHECK.due("submit while the join is owed", x.submit(1, 0), -4);
        CHECK.due("resolve the join", x.resolve(1, 1, 0), 0);
        CHECK.opened(x, 1, 1, 2, 0, 2, 0, -1, 0);
        CHECK.due("text", x.text(1, 1), 0x12);
        Check.change(x, 0, 1, 0x03);
        x.sync(1, -1);
        CHECK.due("resolve the update as theirs", x.resolve(1, 1, 1), 0);
        CHECK.opened(x, 1, 1, 2, 0, 3, 0, -1, 0);
        CHECK.due("submit", x.submit(1, 0), 5);
        // The join was resolved by a merge, the update alone as theirs: no copy.
        joined(x, 0, 1, 1, 0);
    }

    private static void joinedNeverFalls() {
        DepotServer x = Check.depot(2);
        Check.put(x, 0, 0x10);
        Check.put(x, 1, 0x10);
        x.sync(1, -1);
        x.join(1, 0, 1, 0);
        x.resolve(1, 1, 2);
        Check.change(x, 0, 0, 0x20);
        x.join(0, 0, 1, 0);
        x.resolve(0, 1, 1);
        x.submit(0, 0);
        joined(x, 0, 1, 2, 2);
        x.sync(1, -1);
        x.resolve(1, 1, 2);
        CHECK.due("submit of an older credit", x.submit(1, 0), 5);
        joined(x, 0, 1, 2, 2);
        CHECK.due("it is a join all the same", x.joins(), 2);
    }

    private static void joined(DepotServer x, int a, int b, int there, int back) {
        CHECK.due("joined(" + a + ", " + b + ")", x.joined(a, b), there);
        CHECK.due("joined(" + b + ", " + a + ")", x.joined(b, a), back);
    }
}
