import java.nio.file.Files;
import java.nio.file.Path;
import java.util.ArrayList;
import java.util.List;
import java.util.regex.Matcher;
import java.util.regex.Pattern;

/** What README.md shows: lines of Java, most of them a call with what it answers behind it, and rows of calls. */
final class Readme {
    /** "int t = hunt.addTeam(); // 0: words" */
    private static final Pattern CALL = Pattern.compile(
            "((\\w+) (\\w+) = )?((\\w+)\\.(\\w+)\\(.*\\));(\\s*// (-?[0-9]+|NONE|true|false|throws \\w+)(:.*)?)?");
    /** "| `go(t, p)` | words | Index, State |" */
    private static final Pattern ROW = Pattern.compile("\\| `(\\w+)\\(([^)]*)\\)` *\\|[^|]*\\|([^|]*)\\|");

    /** A line of Java; all but the number and the words are null if it is no call at the left margin. */
    record Line(int number, String words, String type, String variable, String call, String method, String answer) {
        boolean isCall() {
            return call != null;
        }

        /** Whether the call's answer goes into a variable of this type. */
        boolean keepsAnswer() {
            return variable != null;
        }
    }

    /** What a row of calls tells: "go(t, p) Index, State". */
    final List<String> rows = new ArrayList<>();
    final List<Line> lines = new ArrayList<>();

    static Readme read(Path file) throws Exception {
        Readme readme = new Readme();
        boolean isJava = false;
        int number = 0;
        for (String words : Files.readAllLines(file)) {
            number++;
            if (words.startsWith("```")) {
                isJava = words.equals("```java");
            } else if (isJava) {
                readme.lines.add(lineOf(number, words));
            } else {
                readme.addRow(words);
            }
        }
        return readme;
    }

    private static Line lineOf(int number, String words) {
        Matcher m = CALL.matcher(words);
        if (!m.matches()) {
            return new Line(number, words, null, null, null, null, null);
        }
        return new Line(number, words, m.group(2), m.group(3), m.group(4), m.group(6), m.group(8));
    }

    private void addRow(String words) {
        Matcher m = ROW.matcher(words);
        if (m.matches()) {
            rows.add((m.group(1) + "(" + m.group(2) + ") " + m.group(3).trim()).trim());
        }
    }
}
