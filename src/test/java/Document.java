import java.nio.file.Files;
import java.nio.file.Path;
import java.util.ArrayList;
import java.util.LinkedHashMap;
import java.util.List;
import java.util.Map;

/** The document, part by part, and how much of it the tests have named so far. */
final class Document {
    private final Map<String, String> words = new LinkedHashMap<>();
    private final Map<String, boolean[]> named = new LinkedHashMap<>();

    static Document read(Path file) throws Exception {
        Document document = new Document();
        document.split(Files.readAllLines(file));
        for (Map.Entry<String, String> part : document.words.entrySet()) {
            document.named.put(part.getKey(), new boolean[part.getValue().length()]);
        }
        return document;
    }

    private void split(List<String> lines) {
        String part = "";
        boolean opening = false;
        for (String line : lines) {
            if (line.startsWith("## ")) {
                part = line.substring(3).replaceAll(":.*", "");
                opening = true;
                continue;
            }
            if (line.matches("[A-Z ]{4,}")) {
                part = line;
                continue;
            }
            if (line.startsWith("The constants:")) {
                part = "Terms";
            }
            if (line.isBlank()) {
                continue;
            }
            // What comes first in a promise is the method's head, which FaceTest looks at.
            String told = opening && part.startsWith("Promise") ? line.replaceFirst("^`[^`]*`:", "") : line;
            opening = false;
            words.merge(part, plain(told), (before, more) -> before + " " + more);
        }
    }

    private static String plain(String line) {
        return line.replace("`", "").replaceAll("\\s+", " ").trim();
    }

    /** Whether the part has these words; they count as named from then on. */
    boolean name(String part, String sentence) {
        String all = words.getOrDefault(part, "");
        String sought = plain(sentence);
        int first = all.indexOf(sought);
        if (first < 0) {
            return false;
        }
        int at = first;
        while (at >= 0 && named.get(part)[at]) {
            at = all.indexOf(sought, at + 1);
        }
        int begin = at < 0 ? first : at;
        for (int i = begin; i < begin + sought.length(); i++) {
            named.get(part)[i] = true;
        }
        return true;
    }

    /** What no test has named, in all parts but the face and what is not promised. */
    List<String> unnamed() {
        List<String> left = new ArrayList<>();
        for (String part : words.keySet()) {
            boolean isAsked = part.startsWith("Promise ") || part.equals("Terms") || part.equals("What it is")
                    || part.matches("[A-Z ]{4,}");
            if (isAsked) {
                addUnnamed(part, left);
            }
        }
        return left;
    }

    private void addUnnamed(String part, List<String> left) {
        StringBuilder run = new StringBuilder();
        String all = words.get(part);
        for (int i = 0; i <= all.length(); i++) {
            if (i < all.length() && !named.get(part)[i]) {
                run.append(all.charAt(i));
                continue;
            }
            if (run.toString().matches(".*[A-Za-z0-9].*")) {
                left.add(part + ": " + run);
            }
            run.setLength(0);
        }
    }
}
