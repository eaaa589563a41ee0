import java.nio.file.Files;
import java.nio.file.Path;
import java.util.ArrayList;
import java.util.HashSet;
import java.util.List;
import java.util.Set;

/**
 * What the tests of the document's sentences have in common. A test names a sentence by told(), and asks for
 * it by run(). Behind each call that is refused, and each that may change nothing, run() makes the same object
 * again with and without that call, and asks both for all there is.
 */
abstract class Boundary {
    static final int MOST = Integer.MAX_VALUE;
    static final int LEAST = Integer.MIN_VALUE;
    static final String NINE_FREE = "H" + "/00*".repeat(9);
    static final String TEN_FREE = NINE_FREE + "/00*";
    /** From the camp to the other corner and back, place by place, each one opened by the one ahead of it. */
    static final String ZIGZAG = "H/99*/00a/99b/00c/99d/00e/99f/00g/99h/00i";
    /** b opens c as long as a was not visited; a and b, without c, are a dead end. */
    static final String CLOSING = "H/11*/30a+!a/52!a.b/99b.2[a,c,!a]";
    /** Four teams: one behind b, one in a dead end, one at the chest, one in the camp; all else is full, too. */
    static final String FULL = "hunt " + CLOSING + """

            4 times addTeam
            go 0 1
            go 1 0
            go 1 1
            go 2 1
            go 2 2
            go 2 3
            hint 3
            save 0
            move 0 0 9
            ease 0
            save 1
            move 1 9 0
            move 2 9 9
            hint 0
            go 3 1
            undo
            move 3 9 9
            87 times append 42
            """;

    /** Four teams that took ways of their own; nothing is remembered. */
    static final String WALKED = "hunt H/00*/11*/22*/33*/44*/55*/66*/77*/88*/99*; 4 times addTeam; "
            + walk(0, 0, 1, 2, 3, 4, 5, 6, 7, 8) + walk(1, 8, 7, 6, 5, 4, 3, 2, 1, 0) + walk(2, 4, 3, 2, 1, 0, 5, 6, 7)
            + walk(3, 1, 3, 5, 7, 8, 6, 4, 2, 0, 9) + "hint 1; hint 2; save 0; restore 0; ";

    private static final Set<String> READING = Set.of("errorPosition", "about", "place", "holds", "team", "trail",
            "open", "shortest", "quickest", "orders", "safe", "needed", "deadEnds", "easeBy", "runScript", "simulate");
    private static final List<List<String>> QUESTIONS = List.of(
            look(), lookBehindLoad(), lookBehindUndo(), lookBehindRestore());

    private static Document document;
    private static String sentence = "";
    private static int sentences;
    private static int asked;
    private static int askedBefore;
    private static int wrong;

    static void begin(String file) throws Exception {
        if (Files.exists(Path.of(file))) {
            document = Document.read(Path.of(file));
        } else {
            System.out.println("there is no " + file + ": whether the tests name all of it is not checked");
        }
    }

    /** The tests that come next ask for this sentence of this part of the document. */
    static void told(String part, String words) {
        finishSentence();
        sentence = part + ": " + words;
        sentences++;
        name(part, words);
    }

    static void namesNoBoundary(String part, String words) {
        name(part, words);
    }

    private static void name(String part, String words) {
        if (document != null && !document.name(part, words)) {
            report(part + " does not say: " + words);
        }
    }

    private static void finishSentence() {
        if (sentences > 0 && asked == askedBefore) {
            report("nothing was asked");
        }
        askedBefore = asked;
    }

    static void end(String test) {
        finishSentence();
        if (document != null) {
            for (String left : document.unnamed()) {
                sentence = "the document";
                report("no test names " + left);
            }
        }
        System.out.println(test + ": " + sentences + " sentences, " + asked + " answers, " + wrong + " not as due");
        if (wrong > 0) {
            System.exit(1);
        }
    }

    private static void report(String fault) {
        wrong++;
        System.out.println(sentence + "\n    " + fault);
    }

    static void same(String what, Object got, Object due) {
        asked++;
        if (!got.equals(due)) {
            report(what + " answered " + got + ", due is " + due);
        }
    }

    /**
     * Calls on a new object, one a line or with semicolons between them: "go 0 1 = 5" must answer 5, "go 0 9 ! INDEX"
     * must throw, "go 0 1" must not throw. "text H/.." stands for clearText and the appends, "hunt H/.." for these
     * and load; "3 times " ahead of a call repeats it.
     */
    static void run(String lines) {
        Calls object = new Calls();
        List<String> before = new ArrayList<>();
        Set<String> checked = new HashSet<>();
        for (String step : steps(lines)) {
            String[] parts = step.split(" [=!] ", 2);
            String call = parts[0];
            String got = object.answer(call);
            if (parts.length > 1) {
                String due = parts[1].equals("NONE") ? "-9" : parts[1];
                same(call + "  (behind " + tail(before) + ")", got, due);
            } else if (got.matches(".*[A-Z].*")) {
                report(call + " threw " + got + "  (behind " + tail(before) + ")");
            }
            boolean isRefused = got.matches("[A-Z]+");
            if (isRefused || READING.contains(call.split(" ")[0])) {
                if (checked.add(call)) {
                    unchanged(before, call);
                }
            } else {
                checked.clear();
            }
            before.add(call);
        }
        if (before.size() > Calls.MOST) {
            report("the test makes more than 512 calls");
        }
    }

    private static String tail(List<String> calls) {
        int from = Math.max(0, calls.size() - 12);
        return (from > 0 ? ".. " : "") + String.join(", ", calls.subList(from, calls.size()));
    }

    private static List<String> steps(String lines) {
        List<String> steps = new ArrayList<>();
        for (String line : lines.split("[\n;]")) {
            String step = line.strip();
            if (step.isEmpty()) {
                continue;
            }
            int times = 1;
            if (step.matches("[0-9]+ times .*")) {
                times = Integer.parseInt(step.substring(0, step.indexOf(' ')));
                step = step.substring(step.indexOf(" times ") + 7);
            }
            for (int i = 0; i < times; i++) {
                addStep(steps, step);
            }
        }
        return steps;
    }

    private static void addStep(List<String> steps, String step) {
        if (!step.startsWith("text ") && !step.startsWith("hunt ")) {
            steps.add(step);
            return;
        }
        steps.add("clearText");
        for (char c : step.substring(5).toCharArray()) {
            steps.add("append " + (int) c);
        }
        if (step.startsWith("hunt ")) {
            steps.add("load");
        }
    }

    /** Calls behind some others, one for each number, which stands where the # is; all have the same answer. */
    static void each(String before, String call, String due, long... numbers) {
        StringBuilder lines = new StringBuilder(before).append("; ");
        for (long number : numbers) {
            lines.append(call.replace("#", Long.toString(number))).append(" = ").append(due).append("; ");
        }
        run(lines.toString());
    }

    static void noSuchTeam(String part, String call) {
        namesNoBoundary(part, "t: team");
        told(part, "Throws IndexOutOfBoundsException if there is no such team");
        teamsRefused(call);
    }

    static void teamsRefused(String call) {
        run("4 times addTeam; " + call.replace("#", "0"));
        run("4 times addTeam; " + call.replace("#", "3"));
        each("", call, "INDEX", 0, 1, -1, -9, 4);
        each("addTeam", call, "INDEX", -1, 1, 2, 4, 32, 256, 65536, MOST, LEAST);
        each("4 times addTeam", call, "INDEX", -1, -4, 4, 5, 8, 36, MOST, LEAST);
        each("2 times addTeam; giveUp 0", call, "INDEX", 1, 2, -1);
        each("addTeam; undo", call, "INDEX", 0, 1);
        each("addTeam; save 1; addTeam; restore 1", call, "INDEX", 1, 2);
        each("4 times addTeam; hunt H/00*/00*", call, "INDEX", 0, 3);
    }

    static void noSuchPlace(String part, String call) {
        told(part, "Throws IndexOutOfBoundsException if there is no such place");
        placesRefused("", call);
    }

    static void placesRefused(String before, String call) {
        run(before + "; " + call.replace("#", "0"));
        run("hunt " + TEN_FREE + "; " + before + "; " + call.replace("#", "9"));
        each(before, call, "INDEX", -1, 2, 3, 9, 10, 32, 33, 256, 65536, -9, MOST, LEAST);
        each("hunt " + TEN_FREE + "; " + before, call, "INDEX", -1, 10, 11, 32, 41, MOST, LEAST);
        each("hunt " + NINE_FREE + "; " + before, call, "INDEX", -1, 9, 10);
        each("hunt " + TEN_FREE + "; hunt H/00*/00*/00*; " + before, call, "INDEX", -1, 3, 9);
        each("text H/00*/00*/00*; " + before, call, "INDEX", 2);
    }

    /** The visits of the places below n, in their order. */
    static String goTo(int t, int n) {
        StringBuilder lines = new StringBuilder();
        for (int p = 0; p < n; p++) {
            lines.append("go " + t + " " + p + "; ");
        }
        return lines.toString();
    }

    /** The action, and undo behind it, must leave all as it was. */
    static void takesBack(String before, String action) {
        List<String> calls = calls(before);
        List<String> more = new ArrayList<>(calls);
        more.add(action);
        more.add("undo");
        for (List<String> questions : QUESTIONS) {
            same(action + " and undo", answers(more, questions, 0), answers(calls, questions, 2));
        }
    }

    /** Two runs must leave the same, as far as calls can tell. */
    static void leaveTheSame(String one, String other) {
        List<String> a = calls(one);
        List<String> b = calls(other);
        int most = Math.max(a.size(), b.size());
        for (List<String> questions : QUESTIONS) {
            same(one + " and " + other, answers(a, questions, most - a.size()), answers(b, questions, most - b.size()));
        }
    }

    /** The calls of the lines, without what is due. */
    static List<String> calls(String lines) {
        List<String> calls = new ArrayList<>();
        for (String step : steps(lines)) {
            calls.add(step.split(" [=!] ", 2)[0]);
        }
        return calls;
    }

    static String walk(int t, int... places) {
        StringBuilder lines = new StringBuilder();
        for (int p : places) {
            lines.append("go " + t + " " + p + "; ");
        }
        return lines.toString();
    }

    private static void unchanged(List<String> before, String call) {
        List<String> more = new ArrayList<>(before);
        more.add(call);
        for (List<String> questions : QUESTIONS) {
            List<String> got = answers(more, questions, 0);
            List<String> due = answers(before, questions, 1);
            for (int i = 0; i < due.size(); i++) {
                if (!got.get(i).equals(due.get(i))) {
                    report(call + " has changed something: " + got.get(i) + " instead of " + due.get(i)
                            + "  (behind " + tail(before) + ")");
                    return;
                }
            }
        }
    }

    /** What these calls leave behind, asked until so many calls are left that the object might make. */
    private static List<String> answers(List<String> calls, List<String> questions, int spared) {
        Calls object = Calls.after(calls);
        List<String> answers = new ArrayList<>();
        for (String question : questions) {
            if (object.left() <= spared) {
                break;
            }
            answers.add(question + " = " + object.answer(question));
        }
        return answers;
    }

    private static List<String> look() {
        List<String> calls = new ArrayList<>(List.of("errorPosition"));
        addAll(calls, "about #", 6);
        for (int p = 0; p < 10; p++) {
            addAll(calls, "place " + p + " #", 4);
            calls.add("holds " + p + " 0");
            calls.add("holds " + p + " 3");
        }
        for (int t = 0; t < 4; t++) {
            addAll(calls, "team " + t + " #", 6);
            addAll(calls, "trail " + t + " #", 10);
            for (String name : new String[] {"open", "orders", "safe", "needed"}) {
                calls.add(name + " " + t);
            }
            addAll(calls, "shortest " + t + " #", 2);
            addAll(calls, "quickest " + t + " #", 2);
        }
        calls.addAll(List.of("deadEnds", "easeBy", "simulate 5 2", "clearText"));
        return calls;
    }

    private static void addAll(List<String> calls, String call, int count) {
        for (int i = 0; i < count; i++) {
            calls.add(call.replace("#", Integer.toString(i)));
        }
    }

    private static List<String> lookShortly() {
        List<String> calls = new ArrayList<>();
        addAll(calls, "about #", 6);
        addAll(calls, "team # 2", 4);
        addAll(calls, "place # 0", 3);
        addAll(calls, "place # 1", 3);
        addAll(calls, "place # 3", 3);
        return calls;
    }

    private static List<String> lookBehindLoad() {
        List<String> calls = new ArrayList<>(List.of("load", "about 0", "about 1", "undo", "restore 0", "restore 1"));
        for (int p = 0; p < 10; p++) {
            addAll(calls, "place " + p + " #", 4);
        }
        calls.add("clearText");
        return calls;
    }

    private static List<String> lookBehindUndo() {
        List<String> calls = new ArrayList<>();
        for (int i = 0; i < 15; i++) {
            calls.add("undo");
            calls.addAll(lookShortly());
        }
        return calls;
    }

    private static List<String> lookBehindRestore() {
        List<String> calls = new ArrayList<>();
        for (int slot = 0; slot < 2; slot++) {
            calls.add("restore " + slot);
            calls.addAll(lookShortly());
            addAll(calls, "trail 0 #", 4);
            calls.add("undo");
        }
        return calls;
    }
}
