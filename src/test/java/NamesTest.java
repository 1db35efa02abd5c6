/** Promises 1 to 5 and 26 to 28: the buffer, files, lines, views and client paths. */
public final class NamesTest {
    private static final Check CHECK = new Check("NamesTest");

    public static void main(String[] args) {
        newObject();
        write();
        file();
        line();
        view();
        fits();
        slotsAndExclusion();
        mapped();
        place();
        where();
        allTwelve();
        CHECK.end();
    }

    private static void newObject() {
        DepotServer x = new DepotServer();
        CHECK.due("new: journal()", x.journal(), 0);
        CHECK.due("new: changes()", x.changes(), 0);
        CHECK.due("new: joins()", x.joins(), 0);
        CHECK.due("new: head(0)", x.head(0), -1);
        CHECK.due("new: have(0, 0)", x.have(0, 0), -1);
        CHECK.due("new: mapped(0, 0)", x.mapped(0, 0), false);
        CHECK.due("new: where(0)", x.where(0), -1);
        CHECK.due("new: view(0, 0, 0)", x.view(0, 0, 0), false);
        CHECK.due("new: crash(1)", x.crash(1), -2);
        CHECK.due("new: crash(0)", x.crash(0), 0);
        CHECK.due("new: file() of an empty buffer", x.file(), -1);
        CHECK.due("new: line() of an empty buffer", x.line(), -1);
        DepotServer y = new DepotServer();
        Check.file(x, "a");
        CHECK.due("objects share no files", y.head(0), -1);
    }

    private static void write() {
        DepotServer x = new DepotServer();
        CHECK.due("write 31", x.write((char) 31), false);
        CHECK.due("write 127", x.write((char) 127), false);
        CHECK.due("write 0", x.write((char) 0), false);
        CHECK.due("write 65535", x.write((char) 65535), false);
        CHECK.due("refused characters are not in the buffer", Check.file(x, "a"), 0);
        CHECK.due("write 32", x.write((char) 32), true);
        CHECK.due("a blank is in the buffer", Check.file(x, "a"), -1);
        CHECK.due("write 126", x.write((char) 126), true);
        CHECK.due("a ~ is in the buffer", Check.file(x, "a"), -1);
        for (int k = 0; k < 32; k++) {
            CHECK.due("write of 32", x.write('a'), true);
        }
        CHECK.due("write of 33", x.write('a'), false);
        x.file();
        CHECK.due("write into a taken buffer", x.write('a'), true);
    }

    private static void file() {
        DepotServer x = new DepotServer();
        CHECK.due("file a/b", Check.file(x, "a/b"), 0);
        CHECK.due("file c", Check.file(x, "c"), 1);
        CHECK.due("file a/b again", Check.file(x, "a/b"), 0);
        String[] noPaths = {"", "/", "/a", "a/", "a//b", "a b", "A", "a.b", "a*", "~", "abcdefghijklm", "`", "{"};
        for (String wrong : noPaths) {
            CHECK.due("file '" + wrong + "'", Check.file(x, wrong), -1);
        }
        CHECK.due("file of 12 characters", Check.file(x, "abcdefghijkl"), 2);
        CHECK.due("file of 12 characters, another", Check.file(x, "a/c/e/g/i/kz"), 3);
        CHECK.due("file that is the start of another", Check.file(x, "abcdefghijk"), 4);
        for (int k = 5; k < 12; k++) {
            CHECK.due("file " + k, Check.file(x, "f/" + (char) ('a' + k)), k);
        }
        CHECK.due("file number 13", Check.file(x, "new"), -2);
        CHECK.due("no path when there are 12", Check.file(x, "a//b"), -1);
        CHECK.due("a known path when there are 12", Check.file(x, "c"), 1);
        CHECK.due("files are no records", x.journal(), 0);
        CHECK.due("the buffer is taken when refused", x.file(), -1);
    }

    private static void line() {
        DepotServer x = new DepotServer();
        String[] noLines = {"", ">", "-", "a", "a>", ">a", "a>b>c", "-a>b", "--a", "a>-b", "a-b", "a >b",
            "a>b ", "*>~", "*~>~*", "*>*a*", "a*>a", "a>a*", "***>***", "a~*~>~*~", "-*~*", "A>b", "a>B",
            "abcdefghijklm>a", "a>abcdefghijklm", "-abcdefghijklm", "**>*", "*>**", "->", "//a>~b~"};
        for (String wrong : noLines) {
            CHECK.due("line '" + wrong + "'", Check.line(x, wrong), -1);
        }
        String[] lines = {"a>b", "a>b", "-a", "abcdefghijkl>/b//c/d/e/f/", "-abcdefghijkl", "*a~>b*~c", "**>**",
            "-~*", "/>/", "~~>~a~"};
        for (int k = 0; k < 10; k++) {
            CHECK.due("line '" + lines[k] + "'", Check.line(x, lines[k]), k);
        }
        CHECK.due("line when there are 10", Check.line(x, "a>b"), -2);
        CHECK.due("no line when there are 10", Check.line(x, "a>"), -1);
        CHECK.due("the buffer is taken when refused", x.line(), -1);
        CHECK.due("lines are no records", x.journal(), 0);
    }

    private static void view() {
        DepotServer x = new DepotServer();
        Check.file(x, "a");
        Check.line(x, "a>b");
        CHECK.due("view(-1, 0, 0)", x.view(-1, 0, 0), false);
        CHECK.due("view(3, 0, 0)", x.view(3, 0, 0), false);
        CHECK.due("view(0, -1, 0)", x.view(0, -1, 0), false);
        CHECK.due("view(0, 4, 0)", x.view(0, 4, 0), false);
        CHECK.due("view(0, 0, 1)", x.view(0, 0, 1), false);
        CHECK.due("view(0, 0, -2)", x.view(0, 0, -2), false);
        CHECK.due("view(0, 0, 10)", x.view(0, 0, 10), false);
        CHECK.due("refused views are no records", x.journal(), 0);
        CHECK.due("view(2, 3, 0)", x.view(2, 3, 0), true);
        CHECK.due("mapped(2, 0)", x.mapped(2, 0), true);
        CHECK.due("mapped(1, 0)", x.mapped(1, 0), false);
        CHECK.due("mapped(0, 0)", x.mapped(0, 0), false);
        CHECK.due("view(2, 3, -1)", x.view(2, 3, -1), true);
        CHECK.due("mapped(2, 0) without lines", x.mapped(2, 0), false);
        CHECK.due("view(2, 3, -1) again", x.view(2, 3, -1), true);
        CHECK.due("views are records", x.journal(), 3);
    }

    private static void fits() {
        place("a/b", "a/b>x", "x");
        place("a/b", "a/c>x", null);
        place("a/b", "a>x", null);
        place("a", "a/b>x", null);
        place("a/b", "*>x*", null);
        place("a/b", "~>x~", "xa/b");
        place("a/b", "*/b>*", "a");
        place("a/b", "a/b*>*", "");
        place("a/b", "a/b~>q~q", "qq");
        place("a/b/c", "a/*>*", null);
        place("a/b/c", "a/*/c>*", "b");
        place("a/b/c", "a/~>~", "b/c");
        // Several ways: the row of the first wildcard is the shortest one.
        place("a/b/c", "~/~>~x~", "axb/c");
        place("aaa", "~a~>~x~", "xaa");
        place("aaa", "**>*x*", "xaaa");
        place("abab", "*b*>*x*", "axab");
        place("abab", "*b>*x", "abax");
        place("a/b/cb", "~b*>~x*", "a/b/cx");
        place("a/b/b", "*~b>*x~", "xa/b/");
        place("a/b/c", "*~>*x~", "xa/b/c");
        place("a/b/c", "~*>~x*", "a/b/xc");
        place("a/b/c", "*/*>*x*", null);
        place("a/b/c", "*/~>*x~", "axb/c");
        place("ab", "~ab~>~ab~", "ab");
        place("abcdefghijkl", "~>abcde~fghijk", "abcdeabcdefghijklfghijk");
        place("abcdefghijkl", "~~>abcde~~fghij", "abcdeabcdefghijklfghij");
        place("a", "a//b>c", null);
        place("ab", "~c>~", null);
        place("abcdefghijkl", "~z>~", null);
        place("ab", "*c>*", null);
        place("ab", "~c~>~~", null);
        place("a/b", "~b~a>~~", null);
        place("a/b", "~/~>/~//~/", "/a//b/");
    }

    /** One file, one line: the client path that is due, null for none. */
    private static void place(String path, String line, String want) {
        DepotServer x = new DepotServer();
        Check.file(x, path);
        CHECK.due("line '" + line + "'", Check.line(x, line), 0);
        x.view(1, 2, 0);
        String got = Check.path(x, 1, 0);
        boolean same = want == null ? got == null : want.equals(got);
        CHECK.due("place of " + path + " by " + line + " is '" + got + "'", same, true);
        CHECK.due("mapped of " + path + " by " + line, x.mapped(1, 0), want != null);
        CHECK.due("where of " + path + " by " + line, want == null ? 0 : Check.where(x, 1, want), 0);
    }

    private static void slotsAndExclusion() {
        DepotServer x = new DepotServer();
        Check.file(x, "a/b");
        Check.file(x, "a/c");
        Check.line(x, "~>l~");
        Check.line(x, "a/b>h");
        Check.line(x, "-a/*");
        x.view(0, 0, 0);
        x.view(0, 3, 1);
        CHECK.due("the higher slot counts", x.place(0, 0, 0), 'h');
        CHECK.due("the lower slot counts where the higher does not fit", x.place(0, 1, 0), 'l');
        x.view(0, 2, 2);
        CHECK.due("a line above the one that excludes", x.place(0, 0, 0), 'h');
        CHECK.due("a line below the one that excludes", x.place(0, 1, -1), -1);
        CHECK.due("mapped when excluded", x.mapped(0, 1), false);
        x.view(0, 2, 1);
        x.view(0, 3, 2);
        CHECK.due("excluded by the highest slot", x.place(0, 0, -1), -1);
        x.view(0, 3, -1);
        CHECK.due("an emptied slot excludes no more", x.place(0, 0, -1), 1);
    }

    private static void mapped() {
        DepotServer x = new DepotServer();
        Check.file(x, "a/a");
        Check.file(x, "b/a");
        Check.file(x, "c/a");
        Check.line(x, "*/*>**");
        Check.line(x, "b/~>a~");
        Check.line(x, "-a/a");
        x.view(0, 0, 0);
        x.view(0, 1, 1);
        CHECK.due("mapped, the lower file", x.mapped(0, 0), true);
        CHECK.due("mapped, the higher file with the same client path", x.mapped(0, 1), false);
        CHECK.due("mapped, another client path", x.mapped(0, 2), true);
        CHECK.due("the higher file still has its client path", x.place(0, 1, -1), 2);
        CHECK.due("where finds the lower one", Check.where(x, 0, "aa"), 0);
        x.view(0, 2, 2);
        CHECK.due("mapped when the lower one is excluded", x.mapped(0, 1), true);
        CHECK.due("where finds the higher one then", Check.where(x, 0, "aa"), 1);
        int[][] wrong = {{-1, 0}, {3, 0}, {0, -1}, {0, 3}, {0, 12}, {Integer.MIN_VALUE, Integer.MAX_VALUE}};
        for (int[] w : wrong) {
            CHECK.due("mapped(" + w[0] + ", " + w[1] + ")", x.mapped(w[0], w[1]), false);
            CHECK.due("place(" + w[0] + ", " + w[1] + ", -1)", x.place(w[0], w[1], -1), -1);
        }
    }

    private static void place() {
        DepotServer x = new DepotServer();
        Check.file(x, "a/b");
        Check.line(x, "~>w/~");
        CHECK.due("place without a view", x.place(0, 0, -1), -1);
        x.view(0, 0, 0);
        CHECK.due("place -1", x.place(0, 0, -1), 5);
        String path = "w/a/b";
        for (int k = 0; k < 5; k++) {
            CHECK.due("place " + k, x.place(0, 0, k), path.charAt(k));
        }
        CHECK.due("place 5", x.place(0, 0, 5), -1);
        CHECK.due("place -2", x.place(0, 0, -2), -1);
        CHECK.due("place of the lowest int", x.place(0, 0, Integer.MIN_VALUE), -1);
        CHECK.due("place of the highest int", x.place(0, 0, Integer.MAX_VALUE), -1);
        CHECK.due("place is no record", x.journal(), 1);
    }

    private static void allTwelve() {
        DepotServer x = Check.depot(12);
        for (int file = 0; file < 12; file++) {
            String path = String.valueOf((char) ('a' + file));
            CHECK.due("mapped of 12 files", x.mapped(2, file), true);
            CHECK.due("where of 12 files", Check.where(x, 2, path), file);
        }
        CHECK.due("where of none of 12 files", Check.where(x, 2, "m"), -1);
    }

    private static void where() {
        DepotServer x = new DepotServer();
        Check.file(x, "a");
        Check.file(x, "ab");
        Check.line(x, "a~>~");
        CHECK.due("where without a view", Check.where(x, 0, "b"), -1);
        x.view(0, 0, 0);
        CHECK.due("where of a client path without characters", x.where(0), 0);
        CHECK.due("where b", Check.where(x, 0, "b"), 1);
        CHECK.due("where bb", Check.where(x, 0, "bb"), -1);
        CHECK.due("where at another client", Check.where(x, 1, "b"), -1);
        Check.type(x, "b");
        CHECK.due("where(-1)", x.where(-1), -1);
        CHECK.due("the buffer is taken with no such client", x.where(0), 0);
        Check.type(x, "b");
        CHECK.due("where(3)", x.where(3), -1);
        CHECK.due("the buffer is taken with no such client", x.where(0), 0);
        Check.type(x, "abcdefghijklmnopqrstuvwxyzabcdef");
        CHECK.due("where of 32 characters", x.where(0), -1);
        CHECK.due("where is no record", x.journal(), 1);
    }
}
