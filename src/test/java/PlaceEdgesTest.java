/** The edges of client paths (promises 26 to 28): what fits, which slot counts, what is mapped. */
public final class PlaceEdgesTest extends Edges {
    private static final Run EMPTY_PLACE = Run.of("file a; file ab; line a~>~; view 0 0 0");

    public static void main(String[] args) {
        new PlaceEdgesTest().runAll();
    }

    /** One file, one line: the client path that is due, null for none. */
    private void place(String path, String line, String want) {
        Run run = Run.of("file " + path + "; line " + line + "; view 1 2 0");
        String got = Check.path(run.made(), 1, 0);
        due(path + " by " + line + " is '" + got + "'", want == null ? got == null : want.equals(got), true);
        answers(run, "mapped 1 0", want == null ? FALSE : TRUE);
        answers(run, "where 1 " + (want == null ? path : want), want == null ? NONE : 0);
    }

    // ---- what fits

    @Sentence("A path FITS a line if LEFT is the path")
    private void fitsWhole() {
        place("ab", "ab>x", "x");
        place("ab", "a>x", null);
        place("ab", "abc>x", null);
        place("ab", "ac>x", null);
        place("ab", "b>x", null);
        place("ab", "*a>x*", null);
        place("ab", "b*>x*", null);
        place("abcdefghijkl", "abcdefghijkl>x", "x");
        place("abcdefghijkl", "abcdefghijk>x", null);
        place("abcdefghijkl", "~z>~", null);
        place("abcdefghijkl", "*z>*", null);
        place("abcdefghijkl", "~l~z>~~", null);
        place("a/b", "a//b>x", null);
        place("a", "/a>x", null);
        place("a", "a/>x", null);
    }

    @Sentence("each * in it is replaced by some row of characters without /")
    private void starWithoutSlash() {
        place("abc", "*>x*", "xabc");
        place("a/b", "*>x*", null);
        place("a/b", "*b>x*", null);
        place("a/b", "a*>x*", null);
        place("a/b", "a*b>x*", null);
        place("a/b", "*/*>*x*", "axb");
        place("a/b/c", "*/*>*x*", null);
        place("a/b/c", "*/*/c>*x*", "axb");
        place("abcdefghijkl", "*>*", "abcdefghijkl");
    }

    @Sentence("each ~ by some row of characters")
    private void waveWithSlashes() {
        place("a/b", "~>x~", "xa/b");
        place("a/b", "a~>~", "/b");
        place("a/b", "~b>~", "a/");
        place("a/b/c", "a~c>~", "/b/");
        place("a/b/c", "a~d>~", null);
        place("a/b/c/d/e/fg", "~>~", "a/b/c/d/e/fg");
    }

    @Sentence("(rows may be empty)")
    private void emptyRows() {
        place("ab", "ab*>*x", "x");
        place("ab", "*ab>x*", "x");
        place("ab", "a~b>x~", "x");
        place("ab", "*ab~>*x~", "x");
        place("ab", "~~ab>~x~", "x");
        place("ab", "ab**>**", "");
        place("a", "a~>~", "");
        place("a", "*a>*", "");
    }

    @Sentence("the one counts in which the row for the first wildcard is shortest")
    private void shortestFirstRow() {
        place("aaa", "**>*x*", "xaaa");
        place("aaa", "~~>~x~", "xaaa");
        place("aaa", "*a*>*x*", "xaa");
        place("aaa", "~a~>~x~", "xaa");
        place("abab", "~b~>~x~", "axab");
        place("a/b/c", "~/~>~x~", "axb/c");
        place("a/b/c", "~/*>~x*", "a/bxc");
        place("a/b/c", "*~>*x~", "xa/b/c");
        place("a/b/c", "~*>~x*", "a/b/xc");
        place("abcabc", "~abc~>~x~", "xabc");
        place("aab", "*ab~>*x~", "ax");
    }

    @Sentence("RIGHT with each wildcard replaced by the row that stood for it in LEFT")
    private void placesOfRows() {
        place("a/b", "*/*>**", "ab");
        place("a/b", "*/*>/*//*/", "/a//b/");
        place("abcdefghijkl", "~>mnopqr~stuvw", "mnopqrabcdefghijklstuvw");
        place("abcdefghijkl", "~~>mnopq~~rstuv", "mnopqabcdefghijklrstuv");
        place("abcdefghijkl", "*ghijkl>*abcdefghijk", "abcdefabcdefghijk");
    }

    // ---- which slot counts

    @Sentence("the line in the highest slot whose line its path fits counts")
    private void highestSlotThatFits() {
        Run lines = Run.of("file a; line a>w; line a>x; line a>y; line a>z; line b>q");
        Run all = lines.then("view 0 0 0; view 0 1 1; view 0 2 2; view 0 3 3");
        answers(all, "place 0 0 0", 'z');
        answers(all.then("view 0 3 4"), "place 0 0 0", 'y');
        answers(all.then("view 0 3 -1"), "place 0 0 0", 'y');
        answers(all.then("view 0 3 -1; view 0 2 4"), "place 0 0 0", 'x');
        answers(all.then("view 0 3 -1; view 0 2 4; view 0 1 -1"), "place 0 0 0", 'w');
        answers(lines.then("view 0 1 3; view 0 2 0"), "place 0 0 0", 'w');
    }

    @Sentence("If there is none, or it excludes, the file has no CLIENT PATH")
    private void noneOrExcluded() {
        Run run = Run.of("file a; file b; line ~>~; line -a");
        answers(run, "place 0 0 -1", NONE);
        answers(run.then("view 0 0 0; view 0 1 1"), "place 0 0 -1", NONE);
        answers(run.then("view 0 0 0; view 0 1 1"), "mapped 0 0", FALSE);
        answers(run.then("view 0 0 0; view 0 1 1"), "place 0 1 -1", 1);
        answers(run.then("view 0 0 1; view 0 1 0"), "place 0 0 -1", 1);
        answers(run.then("view 0 0 1"), "place 0 0 -1", NONE);
        answers(run.then("view 0 0 0; view 0 1 1"), "where 0 a", NONE);
    }

    // ---- promise 26

    @Sentence("no file with a lower number has the same one")
    private void sameClientPath() {
        Run run = Run.of("file a; file b; file c; line ~>~; line b>a; line c>a; line -a");
        Run two = run.then("view 0 0 0; view 0 1 1");
        answers(two, "mapped 0 0", TRUE);
        answers(two, "mapped 0 1", FALSE);
        answers(two, "mapped 0 2", TRUE);
        answers(two, "place 0 1 -1", 1);
        Run three = two.then("view 0 2 2");
        answers(three, "mapped 0 2", FALSE);
        answers(three.then("view 0 3 3"), "mapped 0 1", TRUE);
        answers(three.then("view 0 3 3"), "mapped 0 2", FALSE);
        answers(two, "mapped 1 1", FALSE);
        answers(two.then("view 1 0 0"), "mapped 1 1", TRUE);
    }

    @Sentence("no file with a lower number has the same one")
    private void sameEmptyClientPath() {
        Run run = Run.of("file a; file b; line a~>~; line b~>~; view 0 0 0; view 0 1 1");
        answers(run, "mapped 0 0", TRUE);
        answers(run, "mapped 0 1", FALSE);
        answers(run, "place 0 1 -1", 0);
        answers(run, "where 0", 0);
    }

    @Sentence("false if there is no such client or file")
    private void mappedOfNoSuch() {
        for (String no : new String[] {"-1", "3", "MIN", "MAX"}) {
            answers(SEEN, "mapped " + no + " 0", FALSE);
            answers(SEEN, "mapped 0 " + no, FALSE);
        }
        answers(SEEN, "mapped 0 12", FALSE);
        answers(SEEN, "mapped 0 0", TRUE);
        answers(SEEN, "mapped 2 2", TRUE);
    }

    // ---- promise 27

    @Sentence("Character k (from 0) of the client path of a file")
    private void firstAndLastCharacter() {
        Run run = Run.of("file ab; line ~>w/~; view 0 0 0");
        answers(run, "place 0 0 0", 'w');
        answers(run, "place 0 0 1", '/');
        answers(run, "place 0 0 3", 'b');
        answers(run, "place 0 0 4", NONE);
        answers(run, "place 0 0 -2", NONE);
        answers(run, "place 0 0 MIN", NONE);
        answers(run, "place 0 0 MAX", NONE);
    }

    @Sentence("how many it has if k is -1")
    private void longestAndShortestClientPath() {
        Run longest = Run.of("file abcdefghijkl; line ~>mnopqr~stuvw; view 0 0 0");
        answers(longest, "place 0 0 -1", 23);
        answers(longest, "place 0 0 22", 'w');
        answers(longest, "place 0 0 23", NONE);
        answers(EMPTY_PLACE, "place 0 0 -1", 0);
    }

    @Sentence("(it may have no characters)")
    private void emptyClientPath() {
        answers(EMPTY_PLACE, "mapped 0 0", TRUE);
        answers(EMPTY_PLACE, "place 0 0 0", NONE);
        answers(EMPTY_PLACE, "where 0", 0);
        answers(EMPTY_PLACE, "where 0 b", 1);
        answers(EMPTY_PLACE, "add 0 0 0 false", 0);
    }

    @Sentence("NONE if there is no such client or file, it has no client path there, or there is no such character")
    private void placeOfNoSuch() {
        for (String no : new String[] {"-1", "3", "MIN", "MAX"}) {
            answers(SEEN, "place " + no + " 0 -1", NONE);
            answers(SEEN, "place 0 " + no + " -1", NONE);
            answers(SEEN, "place 0 " + no + " 0", NONE);
        }
        answers(SEEN, "place 0 12 -1", NONE);
        answers(SEEN, "place 2 2 -1", 1);
        answers(SEEN.then("view 1 0 -1"), "place 1 0 -1", NONE);
        answers(SEEN.then("view 1 0 -1"), "place 1 0 0", NONE);
    }

    // ---- promise 28

    @Sentence("the file that is mapped for a client and has these characters as its client path there")
    private void whereOfAllOfThem() {
        Run longest = Run.of("file abcdefghijkl; line ~>mnopqr~stuvw; view 0 0 0");
        answers(longest, "where 0 mnopqrabcdefghijklstuvw", 0);
        answers(longest, "where 0 mnopqrabcdefghijklstuv", NONE);
        answers(longest, "where 0 mnopqrabcdefghijklstuvwx", NONE);
        answers(longest, "where 0 mnopqrabcdefghijklstuvv", NONE);
        answers(longest, "where 0 mnopqrabcdefghijklstuvwxyzabcdef", NONE);
        answers(SEEN, "where 0", NONE);
        answers(SEEN, "where 0 c", 2);
        answers(SEEN.then("line c>a; view 0 1 1"), "where 0 a", 0);
        answers(SEEN.then("line c>a; view 0 1 1"), "where 0 c", NONE);
    }

    @Sentence("NONE if there is none")
    private void whereOfNoSuch() {
        for (String no : new String[] {"-1", "3", "MIN", "MAX"}) {
            refuses(SEEN, "where " + no + " a", NONE);
        }
        refuses(SEEN, "where 0 d", NONE);
        refuses(SEEN.then("view 0 0 -1"), "where 0 a", NONE);
        answers(SEEN, "where 2 a", 0);
        alike("a file that is found stays as it is", SEEN, SEEN.then("where 2 a"));
    }
}
