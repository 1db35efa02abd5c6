import java.io.IOException;
import java.nio.file.Files;
import java.nio.file.Path;
import java.util.List;
import java.util.regex.Matcher;
import java.util.regex.Pattern;

/** The calls that README.md shows, with the answers that it tells; run where README.md stands. */
public final class ReadmeTest {
    private static final Check CHECK = new Check("ReadmeTest");
    private static final String FIRST = "DepotServer depot = new DepotServer();";
    private static final Pattern WRITE = Pattern.compile("write\\(depot, \"([^\" ;]+)\"\\);");
    private static final Pattern CALL = Pattern.compile("depot\\.(\\w+)\\(([^()]*)\\);\\s+// (-?\\w+)(: .*)?");

    public static void main(String[] args) throws IOException {
        List<String> lines = Files.readAllLines(Path.of("README.md"));
        int start = lines.indexOf(FIRST);
        CHECK.due("where the example starts", start > 0, true);
        Run run = Run.of("");
        int calls = 0;
        for (String line : lines.subList(start + 1, lines.size())) {
            if (line.equals("```")) {
                break;
            }
            if (line.isEmpty() || line.startsWith("//")) {
                continue;
            }
            run = after(run, line);
            calls++;
        }
        CHECK.due("the example has calls", calls > 30, true);
        CHECK.end();
    }

    /** A line that is no call with an answer would go untested, so it is wrong. */
    private static Run after(Run run, String line) {
        Matcher write = WRITE.matcher(line);
        if (write.matches()) {
            return run.plus("type " + write.group(1));
        }
        Matcher call = CALL.matcher(line);
        CHECK.due("'" + line + "' is a call with its answer", call.matches(), true);
        if (!call.matches()) {
            return run;
        }
        Run longer = run.plus(call.group(1) + " " + call.group(2).replace(",", " "));
        CHECK.due(line, longer.answer(), due(call.group(3)));
        return longer;
    }

    private static int due(String told) {
        return told.equals("true") ? 1 : told.equals("false") ? 0 : Integer.decode(told);
    }
}
