/** The edges of promises 20 to 25: head, revision, have, text, opened, joined. */
public final class QuestionEdgesTest extends Edges {
    private static final String[] NO_FILE = {"-1", "3", "11", "12", "MIN", "MAX"};
    private static final String[] NO_CLIENT = {"-1", "3", "MIN", "MAX"};

    public static void main(String[] args) {
        new QuestionEdgesTest().runAll();
    }

    @Sentence("The head of a file; NONE if there is no such file.")
    private void head() {
        for (String no : NO_FILE) {
            answers(TWO, "head " + no, NONE);
        }
        answers(TWO, "head 0", 1);
        answers(TWO, "head 2", 0);
        answers(SEEN.then("file new"), "head 3", 0);
    }

    @Sentence("The HEAD is the number of the latest one, 0 if there is none.")
    private void headOfDeletedOnes() {
        answers(SEEN, "head 0", 0);
        answers(ONE.then("remove 0 0 0; submit 0 0"), "head 0", 2);
        answers(ONE.then("remove 0 0 0; submit 0 0; add 0 0 0 false; submit 0 0"), "head 0", 3);
    }

    @Sentence("REVISIONS of a file are numbered 1, 2, ..")
    private void firstAndLastRevision() {
        Run two = ONE.then("edit 0 0 0; store 0 0 6; submit 0 0");
        answers(two, "revision 0 0 1", NONE);
        answers(two, "revision 0 1 1", 5);
        answers(two, "revision 0 2 1", 6);
        answers(two, "revision 0 3 1", NONE);
    }

    @Sentence("NONE if there is no such file or revision, or what is none of these")
    private void noSuchRevision() {
        for (String no : NO_FILE) {
            for (int what = 0; what < 4; what++) {
                answers(TWO, "revision " + no + " 1 " + what, NONE);
            }
        }
        for (String no : new String[] {"-1", "0", "2", "MIN", "MAX"}) {
            for (int what = 0; what < 4; what++) {
                answers(TWO, "revision 0 " + no + " " + what, NONE);
            }
        }
        for (String no : new String[] {"-1", "4", "MIN", "MAX"}) {
            answers(TWO, "revision 0 1 " + no, NONE);
        }
        answers(TWO, "revision 2 0 0", NONE);
        answers(TWO, "revision 2 1 0", NONE);
    }

    @Sentence("what 0 its change, 1 its content, 2 whether it is deleted, 3 whether it is exclusive (1 or 0)")
    private void whatOfARevision() {
        Run exclusive = TWO.then("add 0 2 0 true; store 0 2 9; submit 0 0");
        answers(exclusive, "revision 2 1 0", 3);
        answers(exclusive, "revision 2 1 1", 9);
        answers(exclusive, "revision 2 1 2", 0);
        answers(exclusive, "revision 2 1 3", 1);
        answers(exclusive, "revision 0 1 3", 0);
        Run deleted = exclusive.then("remove 0 0 0; submit 0 0");
        answers(deleted, "revision 0 2 0", 4);
        answers(deleted, "revision 0 2 2", 1);
        answers(deleted, "revision 0 1 2", 0);
    }

    @Sentence("The content of revision 0, and of a deleted one, counts as 0.")
    private void contentOfADeletedOne() {
        answers(ONE.then("remove 0 0 0; submit 0 0"), "revision 0 2 1", 0);
        answers(ONE.then("remove 0 0 0; submit 0 0"), "revision 0 1 1", 5);
        answers(ONE.then("remove 0 0 0; revert 0 0; remove 0 0 0; submit 0 0"), "revision 0 2 1", 0);
    }

    @Sentence("Have of a client and a file; NONE if there is no such client or file.")
    private void have() {
        for (String no : NO_CLIENT) {
            answers(TWO, "have " + no + " 0", NONE);
        }
        for (String no : NO_FILE) {
            answers(TWO, "have 0 " + no, NONE);
        }
        answers(TWO, "have 0 0", 1);
        answers(TWO, "have 2 0", 0);
        answers(TWO, "have 2 2", 0);
    }

    @Sentence("HAVE, a revision number or 0 (at first); TEXT, an int, 0 at first")
    private void atFirst() {
        for (int client = 0; client < 3; client++) {
            answers(SEEN, "have " + client + " 0", 0);
            answers(SEEN, "text " + client + " 0", 0);
            answers(SEEN, "opened " + client + " 0 0", 0);
        }
    }

    @Sentence("Text of a client and a file; 0 if there is no such client or file.")
    private void text() {
        for (String no : NO_CLIENT) {
            answers(TWO, "text " + no + " 0", 0);
        }
        for (String no : NO_FILE) {
            answers(TWO, "text 0 " + no, 0);
        }
        answers(TWO, "text 0 0", 5);
        answers(TWO, "text 2 0", 0);
        answers(TWO.then("edit 0 0 0; store 0 0 -1"), "text 0 0", -1);
    }

    @Sentence("What 0: 0 if it is not open, 1 ADD, 2 EDIT, 3 DELETE.")
    private void openedFor() {
        answers(TWO, "opened 0 0 0", 0);
        answers(TWO.then("add 0 2 0 false"), "opened 0 2 0", 1);
        answers(TWO.then("edit 0 0 0"), "opened 0 0 0", 2);
        answers(TWO.then("remove 0 0 0"), "opened 0 0 0", 3);
        answers(TWO.then("edit 0 0 0"), "opened 1 0 0", 0);
        answers(TWO.then("edit 0 0 0"), "opened 0 1 0", 0);
    }

    @Sentence("If it is open, what 1: its list; 2: its base; 3: the update that it owes, 0 if none; 4: the file whose join "
        + "it owes, NONE if none; 5: the file whose credit it has, NONE if none.")
    private void whatOfAnOpenFile() {
        int[] edit = {2, 1, 1, 0, NONE, NONE};
        int[] owing = {2, 0, 1, 2, 0, NONE};
        int[] credit = {2, 0, 2, 0, NONE, 0};
        Run both = TWO.then("join 1 0 1 0; edit 0 1 0; submit 0 0; sync 1 -1");
        for (int what = 0; what < 6; what++) {
            answers(TWO.then("edit 1 1 1"), "opened 1 1 " + what, edit[what]);
            answers(both, "opened 1 1 " + what, owing[what]);
            answers(both.then("resolve 1 1 1; resolve 1 1 1"), "opened 1 1 " + what, credit[what]);
        }
    }

    @Sentence("NONE otherwise.")
    private void openedOtherwise() {
        Run open = TWO.then("edit 0 0 0");
        for (int what = 0; what < 6; what++) {
            for (String no : NO_CLIENT) {
                answers(open, "opened " + no + " 0 " + what, NONE);
            }
            for (String no : NO_FILE) {
                answers(open, "opened 0 " + no + " " + what, NONE);
            }
            answers(open, "opened 1 0 " + what, what == 0 ? 0 : NONE);
        }
        for (String no : new String[] {"-1", "6", "MIN", "MAX"}) {
            answers(open, "opened 0 0 " + no, NONE);
            answers(open, "opened 1 0 " + no, NONE);
        }
    }

    @Sentence("JOINED(a, b) is, for two files, a number of a revision of a, 0 at first")
    private void joinedAtFirst() {
        answers(SEEN, "joined 0 1", 0);
        answers(SEEN, "joined 2 0", 0);
        answers(TWO.then("join 0 0 1 0; resolve 0 1 2"), "joined 0 1", 0);
        answers(TWO.then("join 0 0 1 0; resolve 0 1 2; submit 0 0"), "joined 0 1", 1);
        answers(TWO.then("join 0 0 1 0; resolve 0 1 2; submit 0 0"), "joined 1 0", 0);
        answers(TWO.then("join 0 0 1 0; resolve 0 1 2; submit 0 0"), "joined 0 2", 0);
    }

    @Sentence("NONE if one of them is no file or both are the same")
    private void joinedOfNoSuch() {
        for (String no : NO_FILE) {
            answers(TWO, "joined " + no + " 0", NONE);
            answers(TWO, "joined 0 " + no, NONE);
        }
        for (int file = 0; file < 3; file++) {
            answers(TWO, "joined " + file + " " + file, NONE);
        }
        answers(SEEN.then("file new"), "joined 3 2", 0);
        answers(SEEN.then("file new"), "joined 2 3", 0);
    }

    @Sentence("Nothing is promised beyond the answers and state changes described above")
    private void questionsChangeNothing() {
        Run state = TWO.then("join 1 0 1 0; add 2 2 1 true; type b");
        String[] questions = {"journal", "changes", "joins", "head 0", "revision 0 1 1", "have 1 1", "text 1 1",
            "opened 1 1 4", "joined 0 1", "mapped 1 1", "place 1 1 0", "head -1", "revision 0 9 1", "have 3 1", "text 1 3",
            "opened 1 1 6", "joined 0 0", "mapped 3 1", "place 1 1 9"};
        for (String question : questions) {
            alike(question + " changes nothing", state, state.then(question));
        }
    }
}
