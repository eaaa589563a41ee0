import java.nio.file.Files;
import java.nio.file.Path;

/** Writes a program that makes the calls of README.md one after the other, and looks at what they answer. */
public final class ReadmeProgram {
    public static void main(String[] args) throws Exception {
        StringBuilder program = new StringBuilder();
        program.append("public final class ReadmeCalls {\n    public static void main(String[] args) {\n");
        for (Readme.Line line : Readme.read(Path.of(args[0])).lines) {
            program.append(line.isCall() ? checked(line) : line.words()).append("\n");
        }
        program.append("        Check.end(\"ReadmeCalls\");\n    }\n}\n");
        Files.writeString(Path.of(args[1]), program);
    }

    private static String checked(Readme.Line line) {
        String name = "\"README.md, line " + line.number() + ": " + line.call().replace("\"", "\\\"") + "\", ";
        String answer = line.answer();
        // Without an answer the line is no Java, so that the program is not compiled.
        if (answer == null) {
            return "no answer in line " + line.number();
        }
        if (answer.startsWith("throws ")) {
            return "Check.fails(" + name + answer.substring(7) + ".class, () -> " + line.call() + ");";
        }
        String due = answer.equals("NONE") ? "ChestLetters.NONE" : answer;
        if (line.keepsAnswer()) {
            return line.type() + " " + line.variable() + " = " + line.call() + ";\n"
                    + "Check.is(" + name + line.variable() + ", " + due + ");";
        }
        return "Check.is(" + name + line.call() + ", " + due + ");";
    }
}
