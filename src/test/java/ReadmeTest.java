import java.io.IOException;
import java.nio.file.Files;
import java.nio.file.Path;
import java.util.Set;
import java.util.TreeSet;
import java.util.regex.Matcher;
import java.util.regex.Pattern;

/** That the calls on README.md answer what stands behind them, and that it names each call. */
public final class ReadmeTest {
    private static final Pattern CALL = Pattern.compile("lattice\\.(\\w+)\\((.*?)\\); +// (-?\\d+)(:.*|$)");
    private static final Pattern FED = Pattern.compile("feed\\(\"(.*?)\"\\); +// (-?\\d+)(:.*|$)");
    private static final Checks CHECKS = new Checks();

    public static void main(String[] args) throws IOException {
        String page = Files.readString(Path.of("README.md"));
        AccessLattice x = new AccessLattice();
        for (String line : page.split("\n")) {
            CHECKS.sentence(line);
            Matcher call = CALL.matcher(line);
            Matcher fed = FED.matcher(line);
            if (call.matches()) {
                String numbers = call.group(2).replace(",", "");
                String text = numbers.isEmpty() ? call.group(1) : call.group(1) + " " + numbers;
                CHECKS.due(Integer.parseInt(call.group(3)), Calls.call(x, text), text);
            } else if (fed.matches()) {
                Calls.feed(x, fed.group(1));
                CHECKS.due(Integer.parseInt(fed.group(2)), x.count(5), line);
            } else {
                CHECKS.fine(!line.startsWith("lattice.") && !line.startsWith("feed("), "a call without its answer");
            }
        }
        checkNames(page);
        CHECKS.close();
    }

    private static void checkNames(String page) {
        CHECKS.sentence("the table of the calls");
        Set<String> named = new TreeSet<>();
        Matcher name = Pattern.compile("`(\\w+)`").matcher(page);
        while (name.find()) {
            named.add(name.group(1));
        }
        for (String call : Calls.names()) {
            CHECKS.fine(named.contains(call), call + " is not named");
        }
    }
}
