/** The edges of promises 16 to 19: crash, journal, changes, joins. */
public final class CrashEdgesTest extends Edges {
    private static final Run NEW = Run.of("");
    /** Client 0 has file 0 open for ADD, after four records; then its text becomes 1, 2, .. */
    private static final Run ADDED = SEEN.then("add 0 0 0 false");

    public static void main(String[] args) {
        new CrashEdgesTest().runAll();
    }

    private static Run stored(int count) {
        Run run = ADDED;
        for (int k = 1; k <= count; k++) {
            run = run.then("store 0 0 " + k);
        }
        return run;
    }

    // ---- refusals

    @Sentence("-1 if lost is not 0 .. 8")
    private void lostIsNot0To8() {
        for (String no : new String[] {"-1", "9", "MIN", "MAX"}) {
            refuses(stored(20), "crash " + no, -1);
        }
        answers(stored(20), "crash 8", 16);
        answers(stored(20), "crash 0", 24);
    }

    @Sentence("-2 if it is more than kept")
    private void moreThanKept() {
        refuses(NEW, "crash 1", -2);
        refuses(NEW, "crash 8", -2);
        answers(NEW, "crash 0", 0);
        refuses(SEEN, "crash 4", -2);
        answers(SEEN, "crash 3", 0);
        refuses(stored(20).then("crash 8"), "crash 1", -2);
        refuses(stored(20).then("crash 5"), "crash 4", -2);
        answers(stored(20).then("crash 5"), "crash 3", 16);
    }

    @Sentence("the first that holds, in the order named, is answered")
    private void noCountComesBeforeKept() {
        refuses(NEW, "crash 9", -1);
        refuses(NEW, "crash MAX", -1);
        refuses(NEW, "crash -1", -1);
    }

    // ---- kept

    @Sentence("KEPT is how many of the latest records can be lost: 0 at first")
    private void keptAtFirst() {
        refuses(NEW, "crash 1", -2);
        refuses(NEW.then("file a; line a>b; type abc"), "crash 1", -2);
        refuses(NEW.plus("head 0; mapped 0 0; where 0; sync 3 0; view 0 0 0"), "crash 1", -2);
    }

    @Sentence("each new record makes it grow by 1, to 8 at most")
    private void keptGrows() {
        for (int records = 1; records <= 20; records++) {
            Run run = NEW.times(records, "sync 0 0");
            int kept = Math.min(records, 8);
            answers(run, "crash " + kept, records - kept);
            refuses(run, "crash " + (kept + 1), kept == 8 ? -1 : -2);
            refuses(run.then("crash " + kept), "crash 1", -2);
        }
    }

    @Sentence("and kept becomes less by as many")
    private void keptBecomesLess() {
        for (int lost = 0; lost <= 8; lost++) {
            Run run = NEW.times(12, "sync 0 0").then("crash " + lost);
            int kept = 8 - lost;
            answers(run, "crash " + kept, 12 - lost - kept);
            refuses(run, "crash " + (kept + 1), kept == 8 ? -1 : -2);
            answers(run.then("sync 0 0"), "crash " + Math.min(kept + 1, 8), kept == 8 ? 5 : 12 - lost - kept);
        }
    }

    @Sentence("a RECORD for each call of view, add, edit, remove, store, reopen, revert, sync, join, resolve and submit "
        + "that was not refused")
    private void whatIsARecord() {
        String[] records = {"view 0 1 -1", "add 0 2 0 false", "edit 0 0 0", "remove 0 0 0", "store 0 1 6", "reopen 0 1 0",
            "revert 0 1", "sync 0 0", "join 0 0 2 0", "resolve 0 1 1", "submit 1 0"};
        Run state = TWO.then("edit 1 0 0; join 0 0 1 0");
        int before = state.made().journal();
        for (String record : records) {
            answers(state.then(record), "journal", before + 1);
            answers(state.then(record).then("crash 1"), "journal", before);
        }
        String[] others = {"write 97", "file new", "file a", "line a>b", "where 0 a", "crash 0", "journal", "changes",
            "joins", "head 0", "revision 0 1 1", "have 0 0", "text 0 0", "opened 0 0 0", "joined 0 1", "mapped 0 0",
            "place 0 0 0"};
        for (String other : others) {
            answers(state.then(other), "journal", before);
        }
    }

    @Sentence("that was not refused")
    private void refusedCallsAreNoRecords() {
        String[] refused = {"view 3 0 0", "add 0 0 0 false", "edit 0 2 0", "remove 0 2 0", "store 0 2 1", "reopen 0 2 0",
            "revert 0 2", "sync 3 0", "join 0 0 0 0", "resolve 0 0 0", "submit 0 1", "crash 9"};
        for (String call : refused) {
            answers(TWO.then("!" + call), "journal", TWO.made().journal());
        }
    }

    // ---- what is lost

    @Sentence("all is as it was before the calls of these")
    private void eachCountOfLostRecords() {
        for (int lost = 0; lost <= 8; lost++) {
            answers(stored(20).then("crash " + lost), "text 0 0", 20 - lost);
            answers(stored(4).then("crash " + lost), "text 0 0", Math.max(4 - lost, 0));
        }
        answers(stored(4).then("crash 4"), "opened 0 0 0", 1);
        answers(stored(4).then("crash 5"), "opened 0 0 0", 0);
        answers(stored(4).then("crash 5"), "mapped 2 0", TRUE);
        answers(stored(4).then("crash 6"), "mapped 2 0", FALSE);
        answers(stored(4).then("crash 6"), "mapped 1 0", TRUE);
        alike("a crash of nothing", stored(20), stored(20).then("crash 0"));
    }

    @Sentence("all is as it was before the calls of these")
    private void eachCallIsLostWhole() {
        // Client 1 owes an update and a join, client 2 adds as exclusive, client 0 has the credit of a copy.
        Run state = TWO.then("file d; join 1 0 1 1; edit 0 1 0; store 0 1 7; submit 0 0; sync 1 -1; add 2 2 1 true; "
            + "join 0 1 0 0; resolve 0 0 1; view 2 1 0");
        // Slot 3 is empty: this record changes nothing, but kept is less by one after it was lost.
        Run lostNothing = state.then("view 2 3 -1; crash 1");
        String[] records = {"view 0 0 -1", "view 2 1 -1", "view 1 3 0", "add 1 3 0 true", "edit 0 1 0", "edit 1 0 0",
            "remove 0 1 1", "store 1 1 99", "store 2 2 99", "reopen 1 1 0", "reopen 2 2 0", "revert 1 1", "revert 2 2",
            "revert 0 0", "sync 2 -1", "sync 1 0", "join 1 1 3 0", "join 0 0 1 1", "resolve 1 1 0", "resolve 1 1 1",
            "resolve 1 1 2", "submit 0 0", "submit 2 1"};
        for (String record : records) {
            alike(record + " is lost", lostNothing, state.then(record).then("crash 1"));
        }
        Run joinOwed = state.then("resolve 1 1 1");
        alike("the resolve of a join is lost", joinOwed.then("view 2 3 -1; view 2 3 -1; crash 2"),
            joinOwed.then("resolve 1 1 1; submit 1 1; crash 2"));
    }

    @Sentence("all is as it was before the calls of these")
    private void crashesOneAfterAnother() {
        Run run = stored(20);
        answers(run.then("crash 3; crash 5"), "text 0 0", 12);
        answers(run.then("crash 3; store 0 0 99; crash 1"), "text 0 0", 17);
        answers(run.then("crash 3; store 0 0 99; crash 2"), "text 0 0", 16);
        answers(run.then("crash 8; store 0 0 99; store 0 0 98; crash 1"), "text 0 0", 99);
        answers(run.then("crash 8; store 0 0 99; store 0 0 98; crash 2"), "text 0 0", 12);
        alike("records that were lost and made again", run, run.then("crash 2; store 0 0 19; store 0 0 20"));
    }

    @Sentence("all is as it was before the calls of these")
    private void aLostSubmit() {
        Run before = TWO.then("join 0 0 1 0; resolve 0 1 1; store 0 1 9");
        Run lost = before.then("submit 0 0; crash 1");
        alike("a submit that is lost", before.then("view 2 3 -1; crash 1"), lost);
        answers(lost, "changes", 2);
        answers(lost, "joins", 0);
        answers(lost, "joined 0 1", 0);
        answers(lost, "joined 1 0", 0);
        answers(lost, "head 1", 1);
        answers(lost, "revision 1 2 0", NONE);
        answers(lost, "have 0 1", 1);
        answers(lost, "text 0 1", 9);
        answers(lost, "opened 0 1 5", 0);
        answers(lost, "submit 0 0", 3);
        answers(lost.then("submit 0 0"), "joined 1 0", 2);
    }

    @Sentence("but for the buffer, files and lines")
    private void whatStays() {
        Run typed = SEEN.then("type ne");
        answers(typed.then("crash 3; write 119; file"), "file new", 3);
        answers(SEEN.then("file new; crash 3"), "head 3", 0);
        answers(SEEN.then("file new; crash 3"), "file new", 3);
        answers(SEEN.then("line -a; crash 3"), "view 0 0 1", TRUE);
        answers(SEEN.then("line -a; crash 3"), "line -b", 2);
        // The file and the line came after the record that is lost.
        Run mixed = SEEN.then("view 0 1 0; file new; line new>old; view 0 1 1; add 0 3 0 false; crash 3");
        answers(mixed, "file new", 3);
        answers(mixed, "opened 0 3 0", 0);
        answers(mixed, "place 0 3 -1", 3);
        answers(mixed.then("view 0 3 1"), "where 0 old", 3);
    }

    // ---- the counts

    @Sentence("How many records the journal has.")
    private void journalOfManyCalls() {
        answers(NEW, "journal", 0);
        answers(SEEN, "journal", 3);
        answers(SEEN.then("crash 2"), "journal", 1);
        answers(SEEN.then("crash 2; sync 0 0"), "journal", 2);
    }

    @Sentence("An object is used for at most 512 calls after it has been made")
    private void upToTheLastCall() {
        answers(NEW.times(511, "view 0 0 -1"), "journal", 511);
        answers(NEW.times(511, "sync 0 0"), "crash 8", 503);
        Run mixed = ADDED;
        for (int k = 1; mixed.size() < 510; k++) {
            mixed = mixed.then("store 0 0 " + k);
        }
        answers(mixed.then("crash 8"), "text 0 0", 510 - ADDED.size() - 8);
        answers(NEW.times(511, "!file"), "file", -1);
        answers(NEW.times(480, "!line"), "write 97", TRUE);
    }

    @Sentence("The number of the latest change; 0 if there was none.")
    private void changesAfterSubmits() {
        answers(SEEN, "changes", 0);
        answers(ONE, "changes", 1);
        answers(TWO, "changes", 2);
        answers(ONE.then("!submit 0 0"), "changes", 1);
        answers(ONE.then("crash 1"), "changes", 0);
    }

    @Sentence("How many joins were written.")
    private void joinsAfterSubmits() {
        Run copy = ONE.then("join 0 0 1 0");
        answers(copy, "joins", 0);
        answers(copy.then("submit 0 0"), "joins", 1);
        answers(copy.then("submit 0 0; crash 1"), "joins", 0);
        answers(copy.then("revert 0 1; add 0 1 0 false; submit 0 0"), "joins", 0);
        answers(copy.then("join 0 0 2 0; submit 0 0"), "joins", 2);
    }
}
