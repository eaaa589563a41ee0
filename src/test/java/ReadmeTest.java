import java.nio.file.Files;
import java.nio.file.Path;
import java.util.ArrayList;
import java.util.List;
import java.util.Set;
import java.util.TreeSet;
import java.util.regex.Matcher;
import java.util.regex.Pattern;

/** README.md shows all calls with their answers, and its rows of calls are those of the document. */
public final class ReadmeTest {
    private static final Set<String> KINDS = Set.of(
            "IndexOutOfBoundsException", "IllegalArgumentException", "IllegalStateException");
    /** "    public int go(int t, int p) throws A, B;" */
    private static final Pattern HEAD = Pattern.compile(" *public \\w+ (\\w+)\\((.*)\\)( throws (.*))?;");

    public static void main(String[] args) throws Exception {
        Readme readme = Readme.read(Path.of(args.length > 2 ? args[2] : "README.md"));
        List<String> face = faceOf(Path.of(args.length > 1 ? args[1] : "../shared/DOC.md"));
        Check.is("calls of the document's face", face.size(), 28);
        answersStandBehindCalls(readme);
        allCallsAreShown(readme, face);
        Check.is("the rows " + readme.rows + " are those of the document: " + face, readme.rows.equals(face), true);
        Check.end("ReadmeTest");
    }

    /** The heads of the document's methods, each as a row of calls tells it: "go(t, p) Index, State". */
    private static List<String> faceOf(Path document) throws Exception {
        List<String> face = new ArrayList<>();
        for (String line : Files.readAllLines(document)) {
            Matcher m = HEAD.matcher(line);
            if (m.matches()) {
                String names = m.group(2).replaceAll("(int|long) ", "");
                String thrown = m.group(4) == null ? "" : shortened(m.group(4));
                face.add((m.group(1) + "(" + names + ") " + thrown).trim());
            }
        }
        return face;
    }

    private static String shortened(String thrown) {
        return thrown.replace("IndexOutOfBoundsException", "Index").replace("IllegalArgumentException", "Argument")
                .replace("IllegalStateException", "State");
    }

    private static void answersStandBehindCalls(Readme readme) {
        for (Readme.Line line : readme.lines) {
            String words = line.words();
            if (line.isCall()) {
                Check.is("an answer stands behind " + words, line.answer() != null, true);
            } else {
                // What is neither a call nor in a loop makes an object, or begins or ends a loop.
                boolean isPlain = words.isBlank() || words.matches("( {4}|}|for |ChestLetters \\w+ = new ).*");
                Check.is("this line is plain: " + words, isPlain, true);
            }
        }
    }

    private static void allCallsAreShown(Readme readme, List<String> face) {
        Set<String> shown = new TreeSet<>();
        Set<String> thrown = new TreeSet<>();
        for (Readme.Line line : readme.lines) {
            if (line.isCall() && line.answer() != null && !line.answer().startsWith("throws ")) {
                shown.add(line.method());
            } else if (line.isCall() && line.answer() != null) {
                thrown.add(line.answer().substring(7));
            }
        }
        for (String head : face) {
            String method = head.substring(0, head.indexOf('('));
            Check.is(method + " is shown with an answer", shown.contains(method), true);
        }
        Check.is("shown exceptions " + thrown, thrown.equals(new TreeSet<>(KINDS)), true);
    }
}
