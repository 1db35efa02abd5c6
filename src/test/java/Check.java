/** Compares answers with those that are due, and fills the buffer of a depot. */
final class Check {
    private final String name;
    private int wrong;

    Check(String name) {
        this.name = name;
    }

    void due(String call, long got, long want) {
        if (got != want) {
            wrong++;
            System.out.println(name + ": " + call + " answered " + got + ", due is " + want);
        }
    }

    void due(String call, boolean got, boolean want) {
        due(call, got ? 1 : 0, want ? 1 : 0);
    }

    /** What opened answers for what 0, 1, 2, .. */
    void opened(DepotServer x, int client, int file, int... want) {
        for (int what = 0; what < want.length; what++) {
            due("opened(" + client + ", " + file + ", " + what + ")", x.opened(client, file, what), want[what]);
        }
    }

    void end() {
        if (wrong != 0) {
            System.out.println(name + ": " + wrong + " answers are not as due");
            System.exit(1);
        }
    }

    static void type(DepotServer x, String text) {
        for (int k = 0; k < text.length(); k++) {
            x.write(text.charAt(k));
        }
    }

    static int file(DepotServer x, String path) {
        type(x, path);
        return x.file();
    }

    static int line(DepotServer x, String written) {
        type(x, written);
        return x.line();
    }

    static int where(DepotServer x, int client, String path) {
        type(x, path);
        return x.where(client);
    }

    /** The client path of a file, read character by character; null if it has none. */
    static String path(DepotServer x, int client, int file) {
        int size = x.place(client, file, -1);
        if (size == DepotServer.NONE) {
            return null;
        }
        StringBuilder found = new StringBuilder();
        for (int k = 0; k < size; k++) {
            found.append((char) x.place(client, file, k));
        }
        return found.toString();
    }

    /** A depot with files a, b, c, .. that all three clients see by line 0, ~>~, in slot 0. */
    static DepotServer depot(int files) {
        DepotServer x = new DepotServer();
        for (int k = 0; k < files; k++) {
            file(x, String.valueOf((char) ('a' + k)));
        }
        line(x, "~>~");
        for (int client = 0; client < 3; client++) {
            x.view(client, 0, 0);
        }
        return x;
    }

    /** Client 0 adds a file and submits it with a content: the number of the change. */
    static int put(DepotServer x, int file, int content) {
        x.add(0, file, 1, false);
        x.store(0, file, content);
        return x.submit(0, 1);
    }

    /** A client that has a file edits it and submits it with a content: the number of the change. */
    static int change(DepotServer x, int client, int file, int content) {
        x.edit(client, file, 1);
        x.store(client, file, content);
        return x.submit(client, 1);
    }

    /** A client that has a file deletes it: the number of the change. */
    static int drop(DepotServer x, int client, int file) {
        x.remove(client, file, 1);
        return x.submit(client, 1);
    }
}
