/** The edges of promises 1 to 5: a new object, the buffer, files, lines and views. */
public final class NameEdgesTest extends Edges {
    private static final Run NEW = Run.of("");
    private static final Run TWELVE_FILES = NEW.then("file a; file b; file c; file d; file e; file f; file g; "
        + "file h; file i; file j; file k; file l");
    private static final Run TEN_LINES = NEW.then("file a").times(10, "line a>b");

    public static void main(String[] args) {
        new NameEdgesTest().runAll();
    }

    // ---- promise 1

    @Sentence("No files, lines, revisions, changes or records.")
    private void aNewObject() {
        answers(NEW, "head 0", NONE);
        answers(NEW, "file a", 0);
        refuses(NEW, "view 0 0 0", FALSE);
        answers(NEW, "line a>b", 0);
        answers(NEW.then("file a"), "head 0", 0);
        answers(NEW, "changes", 0);
        answers(NEW, "joins", 0);
        answers(NEW, "journal", 0);
        refuses(NEW, "crash 1", -2);
    }

    // ---- promise 2 and the buffer

    @Sentence("THE BUFFER has at most 32 characters")
    private void bufferOf32() {
        Run of31 = NEW.times(31, "write 97");
        answers(of31, "write 97", TRUE);
        refuses(of31.then("write 97"), "write 97", FALSE);
        refuses(of31.then("write 97"), "write 32", FALSE);
        answers(of31.then("write 97; !write 97; !file"), "write 97", TRUE);
    }

    @Sentence("characters with codes 32 .. 126")
    private void lowestAndHighestCode() {
        refuses(NEW, "write 31", FALSE);
        answers(NEW, "write 32", TRUE);
        answers(NEW, "write 126", TRUE);
        refuses(NEW, "write 127", FALSE);
        refuses(NEW, "write 0", FALSE);
        refuses(NEW, "write 65535", FALSE);
        // Characters whose lower byte is one of a .. z.
        refuses(NEW, "write 353", FALSE);
    }

    @Sentence("false if 32 are there or its code is not 32 .. 126")
    private void everyCode() {
        DepotServer x = new DepotServer();
        for (int code = 0; code <= 65535; code++) {
            if (code % 20 == 0) {
                x = new DepotServer();
            }
            due("write of code " + code, x.write((char) code), code >= 32 && code <= 126);
        }
    }

    @Sentence("at first none")
    private void bufferAtFirst() {
        answers(NEW, "file", -1);
        answers(NEW.times(31, "write 97"), "write 97", TRUE);
        answers(Run.of("file a; line a~>~; view 0 0 0"), "where 0", 0);
    }

    @Sentence("A call that TAKES it uses its characters and makes it empty, whatever it answers.")
    private void everyTakerEmptiesTheBuffer() {
        String[] takers = {"file new", "file a", "!file a//", "line a>b", "!line a>", "where 0 a", "where 0 q", "where 3 a",
            "where -1 a"};
        for (String taker : takers) {
            answers(SEEN.then(taker), "file c", 2);
        }
        answers(TWELVE_FILES.then("!file new"), "file c", 2);
        answers(TEN_LINES.then("!line a>b"), "file a", 0);
    }

    @Sentence("A call that TAKES it")
    private void noOtherCallTakesTheBuffer() {
        String[] calls = {"!write 31", "view 0 1 0", "!view 0 4 0", "add 0 2 0 false", "!add 3 2 0 false", "edit 0 0 0",
            "!edit 0 2 0", "remove 0 0 0", "!remove 0 2 0", "store 0 1 5", "!store 0 2 5", "reopen 0 1 1",
            "!reopen 0 2 1", "revert 0 1", "!revert 0 2", "sync 2 -1", "!sync 3 -1", "join 0 0 2 0", "!join 0 2 0 0",
            "resolve 0 1 1", "!resolve 0 1 0", "submit 1 1", "!submit 0 1", "crash 2", "!crash 9", "journal", "changes",
            "joins", "head 0", "revision 0 1 0", "have 0 0", "text 0 0", "opened 0 0 0", "joined 0 1", "mapped 0 0",
            "place 0 0 0"};
        Run state = TWO.then("join 0 0 1 0; edit 1 0 1; type b");
        for (String call : calls) {
            answers(state.then(call), "file", 1);
        }
    }

    // ---- promise 3

    @Sentence("A path is 1 to 12 characters")
    private void pathLength() {
        refuses(NEW, "file", -1);
        answers(NEW, "file a", 0);
        answers(NEW, "file abcdefghijkl", 0);
        refuses(NEW, "file abcdefghijklm", -1);
        refuses(NEW, "file abcdefghijklmnopqrstuvwxyzabcdef", -1);
        answers(NEW, "file a/b/c/d/e/fg", 0);
        refuses(NEW, "file a/b/c/d/e/f/g", -1);
    }

    @Sentence("characters a .. z and /")
    private void pathCharacters() {
        for (char c = ' '; c <= '~'; c++) {
            boolean letter = c >= 'a' && c <= 'z';
            due("file " + c, NEW.type("" + c).plus("file").answer(), letter ? 0 : -1);
            due("file x" + c + "x", NEW.type("x" + c + "x").plus("file").answer(), letter || c == '/' ? 0 : -1);
        }
        refuses(NEW, "file a`", -1);
        refuses(NEW, "file a{", -1);
    }

    @Sentence("the first and the last no /")
    private void slashAtAnEnd() {
        refuses(NEW, "file /", -1);
        refuses(NEW, "file /a", -1);
        refuses(NEW, "file a/", -1);
        answers(NEW, "file a/b", 0);
    }

    @Sentence("no two / side by side")
    private void twoSlashes() {
        refuses(NEW, "file a//b", -1);
        refuses(NEW, "file a///b", -1);
        refuses(NEW, "file a/b//c", -1);
        answers(NEW, "file a/b/c", 0);
    }

    @Sentence("the number of the file with it")
    private void aPathThatIsThere() {
        answers(TWELVE_FILES, "file a", 0);
        answers(TWELVE_FILES, "file l", 11);
        answers(NEW.then("file ab; file a"), "file ab", 0);
        answers(NEW.then("file a/b; file ab"), "file ab", 1);
        alike("a path that is there makes nothing new", TWELVE_FILES, TWELVE_FILES.then("file a"));
    }

    @Sentence("a new one (the lowest number not used) if there is none")
    private void lowestNumberOfAFile() {
        for (int k = 0; k < 12; k++) {
            due("file " + k, TWELVE_FILES.answers()[2 * k + 1], k);
        }
        answers(NEW.then("file a; !file a//; file a"), "file b", 1);
        answers(NEW.then("file ab"), "file a", 1);
        answers(NEW.then("file a"), "file ab", 1);
        answers(NEW.then("file ab"), "file ac", 1);
    }

    @Sentence("-2 if there is none with it and there are 12")
    private void thirteenthFile() {
        refuses(TWELVE_FILES, "file m", -2);
        refuses(TWELVE_FILES, "file abcdefghijkl", -2);
        answers(TWELVE_FILES, "head 11", 0);
        answers(TWELVE_FILES.then("!file m"), "head 12", NONE);
    }

    @Sentence("-1 if it is no path; -2 if there is none with it and there are 12")
    private void noPathComesBeforeTwelve() {
        refuses(TWELVE_FILES, "file", -1);
        refuses(TWELVE_FILES, "file m/", -1);
        refuses(TWELVE_FILES, "file abcdefghijklm", -1);
    }

    @Sentence("Files stay for ever.")
    private void filesStay() {
        answers(SEEN.then("sync 0 0; file new; crash 4"), "file new", 3);
        answers(SEEN.then("file new; crash 3"), "file q", 4);
        answers(ONE.then("remove 0 0 0; submit 0 0"), "file a", 0);
    }

    // ---- promise 4

    @Sentence("LEFT and RIGHT are each 1 to 12 characters")
    private void sideLengths() {
        String twelve = "abcdefghijkl";
        refuses(NEW, "line >a", -1);
        refuses(NEW, "line a>", -1);
        refuses(NEW, "line >", -1);
        refuses(NEW, "line -", -1);
        answers(NEW, "line a>b", 0);
        answers(NEW, "line -a", 0);
        answers(NEW, "line " + twelve + ">a", 0);
        answers(NEW, "line a>" + twelve, 0);
        answers(NEW, "line " + twelve + ">" + twelve, 0);
        answers(NEW, "line -" + twelve, 0);
        refuses(NEW, "line " + twelve + "m>a", -1);
        refuses(NEW, "line a>" + twelve + "m", -1);
        refuses(NEW, "line -" + twelve + "m", -1);
        answers(NEW, "line *bcdefghijk~>*bcdefghijk~", 0);
        refuses(NEW, "line *bcdefghijkl~>*~", -1);
        refuses(NEW, "line *~>*bcdefghijkl~", -1);
    }

    @Sentence("a .. z, / and the wildcards * and ~")
    private void sideCharacters() {
        for (char c = ' '; c <= '~'; c++) {
            int due = c >= 'a' && c <= 'z' || c == '/' || c == '*' || c == '~' ? 0 : -1;
            due("line " + c + ">" + c, NEW.type(c + ">" + c).plus("line").answer(), due);
            due("line -" + c, NEW.type("-" + c).plus("line").answer(), due);
            due("line x" + c + ">x" + c, NEW.type("x" + c + ">x" + c).plus("line").answer(), due);
        }
        refuses(NEW, "line A>a", -1);
        refuses(NEW, "line a>A", -1);
        refuses(NEW, "line -A", -1);
    }

    @Sentence("of these at most two")
    private void threeWildcards() {
        answers(NEW, "line **>**", 0);
        answers(NEW, "line -~*", 0);
        answers(NEW, "line ~a~>~~", 0);
        refuses(NEW, "line ***>***", -1);
        refuses(NEW, "line ~*~>~*~", -1);
        refuses(NEW, "line a*b*c*>***", -1);
        refuses(NEW, "line -***", -1);
        refuses(NEW, "line -~a~b~", -1);
    }

    @Sentence("RIGHT has the same wildcards as LEFT in the same order")
    private void sameWildcards() {
        answers(NEW, "line a>b", 0);
        answers(NEW, "line a*>*b", 0);
        answers(NEW, "line *a~>*~b", 0);
        answers(NEW, "line ~*>~*", 0);
        refuses(NEW, "line a*>b", -1);
        refuses(NEW, "line a>b*", -1);
        refuses(NEW, "line *>~", -1);
        refuses(NEW, "line ~>*", -1);
        refuses(NEW, "line *~>~*", -1);
        refuses(NEW, "line *~>*", -1);
        refuses(NEW, "line *~>~", -1);
        refuses(NEW, "line *>*~", -1);
        refuses(NEW, "line **>*~", -1);
        refuses(NEW, "line **>***", -1);
    }

    @Sentence("written LEFT, then >, then RIGHT, or -, then LEFT")
    private void formsOfALine() {
        String[] none = {"", "a", "*", "a-b", "a>b>c", "a>>b", "-a>b", "--a", "a>-b", "a-", "->", "->a"};
        for (String text : none) {
            refuses(NEW, "line " + text, -1);
        }
    }

    @Sentence("without blanks")
    private void blanks() {
        for (String text : new String[] {" a>b", "a >b", "a> b", "a>b ", " -a", "- a", "-a ", "a b>c", "a>b c", " "}) {
            Run typed = NEW.type(text).plus("line");
            refuses(NEW, typed, "line '" + text + "'", -1);
        }
    }

    @Sentence("its number (the lowest not used)")
    private void lowestNumberOfALine() {
        answers(NEW.then("line a>b"), "line a>b", 1);
        answers(NEW.then("line a>b; !line a>; !line"), "line -a", 1);
        answers(NEW.then("file a").times(9, "line a>b"), "line c>d", 9);
        answers(NEW.then("file a").times(9, "line a>b").then("line c>d"), "view 0 0 9", TRUE);
    }

    @Sentence("-2 if there are 10")
    private void eleventhLine() {
        refuses(TEN_LINES, "line a>b", -2);
        refuses(TEN_LINES, "line -q", -2);
        refuses(TEN_LINES.then("!line -q"), "view 0 0 10", FALSE);
    }

    @Sentence("-1 if it is no line; -2 if there are 10")
    private void noLineComesBeforeTen() {
        refuses(TEN_LINES, "line", -1);
        refuses(TEN_LINES, "line a>", -1);
        refuses(TEN_LINES, "line ***>***", -1);
    }

    @Sentence("Lines stay for ever.")
    private void linesStay() {
        Run lost = SEEN.then("line -a; view 0 1 1; crash 1");
        answers(lost, "mapped 0 0", TRUE);
        answers(lost, "view 0 1 1", TRUE);
        answers(lost.then("view 0 1 1"), "mapped 0 0", FALSE);
        answers(lost, "line -b", 2);
    }

    // ---- promise 5

    @Sentence("CLIENTS are 0 .. 2")
    private void clientsOfAView() {
        for (String client : new String[] {"-1", "3", "MIN", "MAX"}) {
            refuses(SEEN, "view " + client + " 0 0", FALSE);
            refuses(SEEN, "view " + client + " 0 -1", FALSE);
        }
        answers(SEEN, "view 0 1 0", TRUE);
        answers(SEEN, "view 2 1 0", TRUE);
    }

    @Sentence("each has SLOTS 0 .. 3")
    private void slotsOfAView() {
        for (String slot : new String[] {"-1", "4", "MIN", "MAX"}) {
            refuses(SEEN, "view 0 " + slot + " 0", FALSE);
            refuses(SEEN, "view 2 " + slot + " -1", FALSE);
        }
        answers(NEW.then("file a; line a>b; view 0 0 0"), "mapped 0 0", TRUE);
        answers(NEW.then("file a; line a>b; view 2 3 0"), "mapped 2 0", TRUE);
        // A slot of a client is no slot of the next one.
        answers(NEW.then("file a; line a>b; view 1 0 0"), "mapped 0 0", FALSE);
        answers(NEW.then("file a; line a>b; view 0 3 0"), "mapped 1 0", FALSE);
    }

    @Sentence("LINES 0 .. 9")
    private void linesOfAView() {
        for (String line : new String[] {"-2", "1", "9", "10", "MIN", "MAX"}) {
            refuses(SEEN, "view 0 0 " + line, FALSE);
        }
        refuses(SEEN.then("line -a"), "view 0 0 2", FALSE);
        answers(SEEN.then("line -a"), "view 0 0 1", TRUE);
        answers(TEN_LINES, "view 0 0 9", TRUE);
        refuses(TEN_LINES, "view 0 0 10", FALSE);
    }

    @Sentence("each with a line or (at first) empty")
    private void slotsAtFirst() {
        answers(NEW.then("file a; line a>b"), "mapped 0 0", FALSE);
        answers(NEW.then("file a; line a>b"), "place 2 0 -1", NONE);
    }

    @Sentence("or becomes empty if line is -1")
    private void anEmptiedSlot() {
        answers(SEEN, "view 0 0 -1", TRUE);
        answers(SEEN.then("view 0 0 -1"), "mapped 0 0", FALSE);
        answers(SEEN.then("view 0 0 -1"), "mapped 1 0", TRUE);
        answers(NEW, "view 0 0 -1", TRUE);
        answers(NEW.then("view 0 0 -1"), "journal", 1);
        answers(SEEN.then("line -a; view 0 3 1; view 0 3 -1"), "mapped 0 0", TRUE);
    }
}
