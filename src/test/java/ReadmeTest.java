import java.io.IOException;
import java.nio.file.Files;
import java.nio.file.Path;
import java.util.regex.Matcher;
import java.util.regex.Pattern;

/** That README.md tells no more and no less than is so: its calls, its list of them, its findings. */
public final class ReadmeTest {
    private static final Pattern EXAMPLE = Pattern.compile("shelves\\.(\\w+)\\(([-0-9, ]*)\\); +// (-?\\d+)(:.*)?");

    public static void main(String[] args) throws IOException {
        String readme = Files.readString(Path.of("README.md"));
        String document = Files.readString(Path.of("../shared/DOC.md"));
        examples(readme);
        listOfCalls(readme, document);
        findings(readme, document);
        Checks.end();
    }

    private static void examples(String readme) {
        GoatShelves x = new GoatShelves();
        int calls = 0;
        int lines = 0;
        for (String line : readme.split("\n")) {
            if (line.equals("GoatShelves shelves = new GoatShelves();")) {
                x = new GoatShelves();
            } else if (line.startsWith("shelves.")) {
                lines++;
                Matcher m = EXAMPLE.matcher(line);
                if (m.matches()) {
                    calls++;
                    Call c = new Call(m.group(1), numbers(m.group(2)));
                    Checks.due("README: " + c, c.on(x), Integer.parseInt(m.group(3)));
                }
            }
        }
        Checks.due("README: lines of its examples", lines > 0);
        Checks.due("README: lines of its examples that are calls", calls, lines);
    }

    private static int[] numbers(String told) {
        String[] parts = told.isEmpty() ? new String[0] : told.split(", ");
        int[] numbers = new int[parts.length];
        for (int i = 0; i < parts.length; i++) {
            numbers[i] = Integer.parseInt(parts[i]);
        }
        return numbers;
    }

    /** Each call of the face has a row, with the names of what it takes, in the order of the document. */
    private static void listOfCalls(String readme, String document) {
        StringBuilder face = new StringBuilder();
        Matcher m = Pattern.compile("(?m)^    public (?:int|long) (\\w+\\(.*\\));$").matcher(document);
        while (m.find()) {
            face.append(m.group(1).replaceAll("\\bint ", "")).append('\n');
        }
        StringBuilder rows = new StringBuilder();
        m = Pattern.compile("(?m)^\\| `(\\w+\\(.*?\\))` \\|").matcher(readme);
        while (m.find()) {
            rows.append(m.group(1)).append('\n');
        }
        Checks.due("README: a row for each of " + face, rows.toString().equals(face.toString()));
    }

    /** "LOW - 2 KIND" in the document: -1000003 in the README, told by status(2). */
    private static void findings(String readme, String document) {
        int found = 0;
        Matcher m = Pattern.compile("LOW(?: - (\\d))? ([A-Z]+)[ ,(]").matcher(document);
        while (m.find()) {
            int which = m.group(1) == null ? 0 : Integer.parseInt(m.group(1));
            String row = "| " + (-1000001 - which) + " | " + m.group(2) + " | " + which + " |\n";
            Checks.due("README: " + row.trim(), readme.contains(row));
            found++;
        }
        Checks.due("findings that the document tells", found, 7);
    }
}
