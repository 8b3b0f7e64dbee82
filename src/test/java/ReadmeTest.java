import java.io.IOException;
import java.nio.file.Files;
import java.nio.file.Path;
import java.util.regex.Matcher;
import java.util.regex.Pattern;

/** The calls that README.md shows are those here, and answer the number that is written behind them. */
public final class ReadmeTest extends YardCheck {
    /** A call, and behind it the number of its answer. */
    private static final Pattern LINE =
        Pattern.compile("^(?:int \\w+ = )?x\\.(.*);\\s+// (-?\\d+)\\b.*$", Pattern.MULTILINE);
    private static final String[] NAMES = {"machine()", "place(m)", "place(m)", "limit(m, 0, 1, 5, false)",
        "way(m, 0, 1, 0, 1)", "test(m, w, 4 * 0 + 1, -3, false)", "walk()", "seen(1, -1, -1)",
        "lead(1, 0, 1)", "soonest(1)", "stuck(1)", "bound(0, 1, 0)", "hand(2, 0)",
        "tighten(0, 1, -6, false)", "keep(0, 1, m, w)", "weight(0)"};
    private static final Call[] CALLS = {TimedYard::machine, x -> x.place(0), x -> x.place(0),
        x -> x.limit(0, 0, 1, 5, false), x -> x.way(0, 0, 1, 0, 1), x -> x.test(0, 0, 1, -3, false),
        TimedYard::walk, x -> x.seen(1, -1, -1), x -> x.lead(1, 0, 1), x -> x.soonest(1),
        x -> x.stuck(1), x -> x.bound(0, 1, 0), x -> x.hand(2, 0), x -> x.tighten(0, 1, -6, false),
        x -> x.keep(0, 1, 0, 0), x -> x.weight(0)};

    public static void main(String[] args) throws IOException {
        says("README.md says how to use the class");
        Matcher line = LINE.matcher(Files.readString(Path.of("README.md")));
        TimedYard x = new TimedYard();
        int n = 0;
        for (; line.find() && n < CALLS.length; n++) {
            due("call " + n + " is " + line.group(1), line.group(1).equals(NAMES[n]) ? 1 : 0, 1);
            due(NAMES[n], x, CALLS[n], Long.parseLong(line.group(2)));
        }
        due("how many calls README.md shows", n, CALLS.length);
        end("README.md tells what is so");
    }
}
