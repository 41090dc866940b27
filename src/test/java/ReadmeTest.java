import java.nio.file.Files;
import java.nio.file.Path;
import java.util.List;
import java.util.regex.Matcher;
import java.util.regex.Pattern;

/** README.md: what it says that the example answers is so, and each call of the face stands in its table. */
public final class ReadmeTest {
    private static final Pattern CALL = Pattern.compile("x\\.(\\w+)\\(([-0-9, ]*)\\);(?:\\s+// (-?\\d+|[A-Z]+)\\b.*)?");
    private static final Pattern TEXT = Pattern.compile("String text = \"(.*)\";");
    private static final Pattern ROW = Pattern.compile("(?m)^\\| (\\d+) \\| `(\\w+)\\(([a-z, ]*)\\)` \\| .+ \\| (.*) ?\\|$");
    private static final List<String> REFUSALS = List.of("BAD", "NO", "FULL", "NONE");

    /** The face in the order of the promises, 2 first, with what each may refuse. */
    private static final String[] FACE = {"write/1 BAD, FULL", "wipe/0", "fault/0 NONE", "lay/0 NO", "figure/2 BAD",
        "coin/1 BAD", "strike/2 BAD, NO", "standIn/2 BAD", "undo/0 NO", "said/1 BAD", "next/1 NONE, BAD", "rank/1 BAD",
        "kth/1 NONE, BAD", "sum/1 BAD", "ways/1 BAD", "shortest/2 NONE, BAD", "change/1 NONE, BAD", "never/0 NONE",
        "pays/1 BAD", "day/1 NONE, BAD", "agree/0 NONE", "odds/2 BAD", "mean/1 BAD", "dark/2 BAD, FULL", "forget/0",
        "works/0", "costs/2 BAD", "dearest/2 BAD", "bargain/3 BAD", "days/3 BAD", "keep/0 FULL", "back/0 NO",
        "count/1 BAD"};

    public static void main(String[] args) throws Exception {
        String readme = Files.readString(Path.of("README.md"));
        example(readme);
        table(readme);
        Due.end();
    }

    private static void example(String readme) {
        int start = readme.indexOf("```java\n");
        String code = readme.substring(start, readme.indexOf("\n```\n", start));
        Run run = new Run();
        String text = "";
        int compared = 0;
        for (String line : code.split("\n")) {
            Matcher told = TEXT.matcher(line);
            Matcher call = CALL.matcher(line);
            if (told.matches()) {
                text = told.group(1);
            } else if (line.contains("x.write(text.charAt(i))")) {
                text.chars().forEach(letter -> run.call("write " + letter));
            } else if (call.matches()) {
                compared += isAnswered(run, line, call);
            } else {
                Due.holds("a line that is looked at: " + line, !line.startsWith("x."));
            }
        }
        Due.holds("the example has answers", compared >= 20);
    }

    private static int isAnswered(Run run, String line, Matcher call) {
        int answer = run.call((call.group(1) + " " + call.group(2).replaceAll(",", "")).trim());
        if (call.group(3) == null) {
            return 0;
        }
        int refusal = REFUSALS.indexOf(call.group(3));
        Due.is("README: " + line, answer, refusal >= 0 ? -1 - refusal : Integer.parseInt(call.group(3)));
        return 1;
    }

    private static void table(String readme) {
        Matcher row = ROW.matcher(readme);
        for (int promise = 2; promise <= 34; promise++) {
            boolean found = row.find();
            Due.holds("a row of promise " + promise, found);
            if (found) {
                String names = row.group(3);
                int parameters = names.isEmpty() ? 0 : names.split(", ").length;
                String told = (row.group(2) + "/" + parameters + " " + row.group(4)).trim();
                Due.is("the promise of " + told, Integer.parseInt(row.group(1)), promise);
                Due.holds(told + " is " + FACE[promise - 2], told.equals(FACE[promise - 2]));
            }
        }
        Due.holds("no row more", !row.find());
    }
}
