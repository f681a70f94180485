import java.io.IOException;
import java.nio.file.Files;
import java.nio.file.Path;
import java.util.HashMap;
import java.util.Map;
import java.util.regex.Matcher;
import java.util.regex.Pattern;

/** README.md's example, row by row: each call answers what is told beside it. */
public final class ReadmeTest {
    private static final Pattern ROW =
        Pattern.compile("(?:int (\\w+) = )?hull\\.(\\w+)\\((.*)\\); +// (-?\\d+|LiveHull\\.(\\w+)).*");
    private static final Check check = new Check();

    public static void main(String[] args) throws IOException, ReflectiveOperationException {
        check.about("README.md");
        LiveHull hull = new LiveHull();
        Map<String, Integer> names = new HashMap<>();
        int rows = 0;
        for (String line : Files.readAllLines(Path.of("README.md"))) {
            Matcher row = ROW.matcher(line);
            if (row.matches()) {
                rows++;
                askRow(hull, row, names);
            } else {
                check.due("a row with its answer: " + line, line.contains("hull.") ? 1 : 0, 0);
            }
        }
        check.due("an example", rows > 0 ? 1 : 0, 1);
        check.end();
    }

    private static void askRow(LiveHull hull, Matcher row, Map<String, Integer> names)
            throws ReflectiveOperationException {
        int[] with = new int[3];
        int k = 0;
        for (String number : row.group(3).split(", ")) {
            if (!number.isEmpty()) {
                with[k++] = names.containsKey(number) ? names.get(number) : Integer.parseInt(number);
            }
        }
        long due = row.group(5) == null
            ? Long.parseLong(row.group(4)) : LiveHull.class.getField(row.group(5)).getInt(null);
        long got = Calls.ask(hull, row.group(2), with[0], with[1], with[2]);
        check.due(row.group(), got, due);
        if (row.group(1) != null) names.put(row.group(1), (int) got);
    }
}
