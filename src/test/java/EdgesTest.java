import java.io.IOException;
import java.nio.file.Files;
import java.nio.file.Path;
import java.util.regex.Matcher;
import java.util.regex.Pattern;

/** Each sentence of the document by itself, at its edges; and that none of its sentences is left without a test. */
public final class EdgesTest {
    private static final Path DOCUMENT = Path.of("../shared/DOC.md");

    public static void main(String[] args) throws IOException {
        TermEdges.all();
        TextEdges.all();
        LedgeEdges.all();
        DayEdges.all();
        PlanEdges.all();
        SheetEdges.all();
        RefusedEdges.all();
        String[] sections = Files.readString(DOCUMENT).split("(?m)^## ");
        termsAreTested(sections);
        promisesAreTested(sections);
        Checks.end();
    }

    private static String plain(String words) {
        return words.replace("```text", " ").replace("```", " ").replaceAll("\\s+", " ").trim();
    }

    private static void termsAreTested(String[] sections) {
        StringBuilder left = new StringBuilder();
        for (String section : sections) {
            if (section.startsWith("What it is")) {
                left.append(section.substring(section.indexOf("An object")));
            } else if (section.startsWith("Terms")) {
                left.append(section, "Terms".length(), section.indexOf("Ahead of the calls"));
            }
        }
        String all = plain(left.toString());
        boolean[] isTested = new boolean[all.length()];
        for (String told : Edges.TESTED) {
            if (told.startsWith("0 ")) {
                String words = told.substring(2);
                int place = all.indexOf(words);
                Checks.due("the terms say \"" + words + "\"", place >= 0);
                for (; place >= 0; place = all.indexOf(words, place + 1)) {
                    java.util.Arrays.fill(isTested, place, place + words.length(), true);
                }
            }
        }
        StringBuilder untested = new StringBuilder();
        for (int i = 0; i < all.length(); i++) {
            untested.append(isTested[i] ? ' ' : all.charAt(i));
        }
        Checks.due("all terms are tested, but for: " + plain(untested.toString()), plain(untested.toString()).isEmpty());
    }

    private static void promisesAreTested(String[] sections) {
        Pattern form = Pattern.compile("Promise (\\d+): [^\n]*\\s+`[^`]*`: (.*)");
        int promises = 0;
        int sentences = 0;
        for (String section : sections) {
            Matcher m = form.matcher(plain(section).replaceFirst("(Promise \\d+: [^`]*) `", "$1\n`"));
            if (m.matches()) {
                promises++;
                for (String words : m.group(2).split("(?<=[^.]\\.) (?=[A-Z])")) {
                    sentences++;
                    Checks.due("tested: " + m.group(1) + " " + words, Edges.TESTED.contains(m.group(1) + " " + words));
                }
            }
        }
        Checks.due("promises", promises, 43);
        long told = Edges.TESTED.stream().filter(words -> !words.startsWith("0 ")).count();
        Checks.due("sentences of promises", told, sentences);
    }
}
