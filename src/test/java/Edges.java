import java.lang.reflect.InvocationTargetException;
import java.lang.reflect.Method;
import java.util.Arrays;
import java.util.Comparator;

/** What the tests of edges share: each method with a sentence is a test of its own. */
abstract class Edges {
    static final int TRUE = 1;
    static final int FALSE = 0;
    static final int NONE = -1;

    /** Files 0 (a), 1 (b) and 2 (c), which all clients see by line 0, ~>~, in slot 0. */
    static final Run SEEN = Run.of("file a; file b; file c; line ~>~; view 0 0 0; view 1 0 0; view 2 0 0");
    /** File 0 has a revision, with content 5, which client 0 has. */
    static final Run ONE = SEEN.then("add 0 0 0 false; store 0 0 5; submit 0 0");
    /** File 1 has one too, with content 6, and clients 0 and 1 have both. */
    static final Run TWO = ONE.then("add 0 1 0 false; store 0 1 6; submit 0 0; sync 1 -1");

    private final Check check = new Check(getClass().getSimpleName());
    private String sentence;

    final void runAll() {
        Method[] methods = getClass().getDeclaredMethods();
        Arrays.sort(methods, Comparator.comparing(Method::getName));
        int ran = 0;
        for (Method method : methods) {
            Sentence about = method.getAnnotation(Sentence.class);
            if (about != null) {
                sentence = method.getName() + ", \"" + about.value() + "\"";
                make(method);
                ran++;
            }
        }
        check.due("there are tests", ran > 0, true);
        check.end();
    }

    private void make(Method method) {
        try {
            method.setAccessible(true);
            method.invoke(this);
        } catch (InvocationTargetException | IllegalAccessException e) {
            e.printStackTrace(System.out);
            due("no exception", false, true);
        }
    }

    final void due(String what, int got, int want) {
        check.due(sentence + ": " + what, got, want);
    }

    final void due(String what, boolean got, boolean want) {
        check.due(sentence + ": " + what, got, want);
    }

    /** After a run, a call answers this. */
    final void answers(Run run, String call, int want) {
        due(call, run.plus(call).answer(), want);
    }

    /** After a run, a call is refused with this answer, and all is as without the call. */
    final void refuses(Run run, String call, int want) {
        // Something stands in the buffer, so that a call which may not take it is seen to do so.
        boolean takes = call.startsWith("file") || call.startsWith("line") || call.startsWith("where");
        Run before = takes ? run : run.type("b");
        refuses(before, before.plus(call), call, want);
    }

    /** A run that is another one with a call more, one that is to be refused. */
    final void refuses(Run before, Run after, String call, int want) {
        due(call, after.answer(), want);
        String difference = Alike.difference(before, after);
        due(call + " has changed something: " + difference, difference == null, true);
    }

    /** A run leaves all as another one does. */
    final void alike(String what, Run run, Run other) {
        String difference = Alike.difference(run, other);
        due(what + ": " + difference, difference == null, true);
    }
}
