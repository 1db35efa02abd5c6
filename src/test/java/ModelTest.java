import java.util.ArrayList;
import java.util.List;
import java.util.Random;
import java.util.Set;

/** Long runs of calls, the same ones each time, that a depot and the model must answer alike. */
public final class ModelTest {
    private static final int RUNS = 800;
    private static final int CALLS = 400;
    private static final String[] PATHS = {"a", "b", "ab", "a/b", "a/b/c", "b/a", "aa/b", "c/b/a", "abcdefghijkl",
        "b/b", "a/a/a", "c", "ba", "cc"};
    private static final String[] LINES = {"~>~", "~>w/~", "*>*", "a/~>~", "~b>~a", "*/*>**", "-b~", "-a/*", "~a~>~~",
        "a~>~", "~/*>~/*", "a>c", "~~>x~~", "*~>*~", "-~c~", "~*>~q*", "b~>a~", "-*"};
    private static final String[] DEEDS = {"view", "add", "add", "edit", "edit", "edit", "remove", "store", "store", "store",
        "reopen", "revert", "sync", "sync", "sync", "join", "join", "join", "join", "resolve", "resolve", "resolve",
        "submit", "submit", "submit", "submit", "submit", "crash"};
    private static final Set<String> NEED_OPEN = Set.of("store", "reopen", "resolve", "submit");
    private static final String[] QUESTIONS = {"journal", "changes", "joins", "head", "revision", "have", "text",
        "opened", "joined", "mapped", "place"};
    private static final String[] NAMERS = {"file", "line", "where"};

    private final Random random;
    private final DepotServer depot = new DepotServer();
    private final Model model = new Model();
    private final List<String> told = new ArrayList<>();
    private final int files;
    private final int[] answers;

    private ModelTest(int seed, int[] answers) {
        random = new Random(seed);
        files = 2 + random.nextInt(5);
        this.answers = answers;
    }

    public static void main(String[] args) {
        int[] answers = new int[8];
        for (int seed = 0; seed < RUNS; seed++) {
            new ModelTest(seed, answers).run();
        }
        for (int refusal = 1; refusal < 8; refusal++) {
            if (answers[refusal] == 0) {
                System.out.println("ModelTest: no run was ever answered -" + refusal);
                System.exit(1);
            }
        }
    }

    private void run() {
        for (int k = 0; k < files; k++) {
            name("file", PATHS[random.nextInt(PATHS.length)], 0);
        }
        for (int k = 0; k < 3; k++) {
            name("line", LINES[random.nextInt(LINES.length)], 0);
        }
        name("line", "~>~", 0);
        for (int client = 0; client < 3; client++) {
            give(new Call("view", client, random.nextInt(3), 3, 0));
        }
        while (told.size() < CALLS) {
            step();
        }
        askAll();
    }

    private void step() {
        int chance = random.nextInt(20);
        if (chance == 0) {
            String namer = NAMERS[random.nextInt(3)];
            String text = (namer.equals("line") ? LINES : PATHS)[random.nextInt(14)];
            name(namer, random.nextInt(8) == 0 ? scrambled(text) : text, client());
        } else if (chance < 4) {
            give(question(QUESTIONS[random.nextInt(QUESTIONS.length)]));
        } else {
            give(deed(DEEDS[random.nextInt(DEEDS.length)]));
        }
    }

    private String scrambled(String text) {
        char[] chars = text.toCharArray();
        chars[random.nextInt(chars.length)] = "/*~>- aA".charAt(random.nextInt(8));
        return new String(chars);
    }

    private void name(String namer, String text, int client) {
        for (char c : text.toCharArray()) {
            give(new Call("write", c, 0, 0, 0));
        }
        give(new Call(namer, client, 0, 0, 0));
    }

    private Call deed(String name) {
        int client = client();
        int file = file();
        // Most pairs of a client and a file are not open: some are tried, so that more deeds are done.
        for (int k = 0; k < 6 && NEED_OPEN.contains(name) && depot.opened(client, file, 0) < 1; k++) {
            client = client();
            file = file();
        }
        return switch (name) {
            case "view" -> new Call(name, client, small(4), random.nextInt(6) - 1, 0);
            case "add" -> new Call(name, client, file, small(2), random.nextInt(4) == 0 ? 1 : 0);
            case "edit", "remove", "reopen" -> new Call(name, client, file, small(2), 0);
            case "store" -> new Call(name, client, file, content(), 0);
            case "revert" -> new Call(name, client, file, 0, 0);
            case "sync" -> new Call(name, client, random.nextInt(3) == 0 ? random.nextInt(9) : -1, 0, 0);
            case "join" -> new Call(name, client, file(), file, small(2));
            case "resolve" -> new Call(name, client, file, small(3), 0);
            case "submit" -> new Call(name, client, small(2), 0, 0);
            default -> new Call(name, random.nextInt(6) == 0 ? random.nextInt(12) - 1 : random.nextInt(3), 0, 0, 0);
        };
    }

    private Call question(String name) {
        return switch (name) {
            case "head" -> new Call(name, file(), 0, 0, 0);
            case "joined" -> new Call(name, file(), file(), 0, 0);
            case "revision" -> new Call(name, file(), random.nextInt(8) - 1, random.nextInt(6) - 1, 0);
            case "opened" -> new Call(name, client(), file(), random.nextInt(8) - 1, 0);
            case "place" -> new Call(name, client(), file(), random.nextInt(8) - 2, 0);
            default -> new Call(name, client(), file(), 0, 0);
        };
    }

    private int client() {
        return small(3);
    }

    private int file() {
        return small(files);
    }

    /** Mostly 0 .. bound - 1, at times one that is beside. */
    private int small(int bound) {
        int chance = random.nextInt(60);
        return chance == 0 ? -1 : chance == 1 ? bound : random.nextInt(bound);
    }

    /** Few digits are not 0, so that merges are with and without a clash. */
    private int content() {
        int high = random.nextInt(3) << 28;
        return high | random.nextInt(3) << 4 * random.nextInt(7);
    }

    private void give(Call call) {
        int want = model.answer(call);
        int got = call.on(depot);
        told.add(call + " answered " + got);
        if (call.isRecorded() && want < 0 && want > -8) {
            answers[-want]++;
        }
        if (got != want) {
            told.forEach(System.out::println);
            System.out.println("ModelTest: due is " + want);
            System.exit(1);
        }
    }

    private void askAll() {
        for (String name : QUESTIONS) {
            for (int a = -1; a <= 12; a++) {
                for (int b = -1; b <= 12; b++) {
                    int most = name.equals("revision") || name.equals("opened") || name.equals("place") ? 7 : -1;
                    for (int c = -1; c <= most; c++) {
                        give(new Call(name, a, b, c, 0));
                    }
                }
            }
        }
    }
}
