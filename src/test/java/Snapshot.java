/** All that can be asked of a depot, as one text; the buffer is left alone. */
final class Snapshot {
    private Snapshot() {
    }

    static String of(DepotServer x) {
        StringBuilder all = new StringBuilder();
        all.append(x.journal()).append(' ').append(x.changes()).append(' ').append(x.joins());
        for (int file = 0; file < 12 && x.head(file) != DepotServer.NONE; file++) {
            all.append("\nfile ").append(file).append(' ').append(x.head(file));
            for (int number = 1; number <= x.head(file); number++) {
                for (int what = 0; what < 4; what++) {
                    all.append(' ').append(x.revision(file, number, what));
                }
            }
            for (int other = 0; other < 12; other++) {
                all.append(' ').append(x.joined(file, other));
            }
            for (int client = 0; client < 3; client++) {
                all.append("\nclient ").append(client).append(' ').append(x.have(client, file));
                all.append(' ').append(x.text(client, file)).append(' ').append(x.mapped(client, file));
                all.append(' ').append(Check.path(x, client, file));
                for (int what = 0; what < 6; what++) {
                    all.append(' ').append(x.opened(client, file, what));
                }
            }
        }
        return all.toString();
    }
}
