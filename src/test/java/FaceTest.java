import java.lang.reflect.Constructor;
import java.lang.reflect.Field;
import java.lang.reflect.Method;
import java.lang.reflect.Modifier;
import java.nio.file.Files;
import java.nio.file.Path;
import java.util.ArrayList;
import java.util.Arrays;
import java.util.List;
import java.util.TreeSet;

/** The face of the class is the document's, and the source shows nothing that LANGUAGE.md rules out at a glance. */
public final class FaceTest {
    private static final String I = "IndexOutOfBoundsException";
    private static final String A = "IllegalArgumentException";
    private static final String S = "IllegalStateException";
    private static final String[] FACE = {
        "int append(int) " + A + " " + S, "int clearText()", "int errorPosition()", "int load() " + S,
        "int about(int) " + A, "int place(int,int) " + I + " " + A, "boolean holds(int,int) " + I + " " + A,
        "int team(int,int) " + I + " " + A, "int trail(int,int) " + I + " " + A, "int open(int) " + I,
        "int addTeam() " + S, "int go(int,int) " + I + " " + S, "int hint(int) " + I + " " + S,
        "int giveUp(int) " + I, "int move(int,int,int) " + I + " " + A, "int ease(int) " + I, "int undo() " + S,
        "int shortest(int,int) " + I + " " + A, "int quickest(int,int) " + I + " " + A, "int orders(int) " + I,
        "int safe(int) " + I, "int needed(int) " + I, "int deadEnds()", "int easeBy()",
        "int runScript(int,long) " + A, "int simulate(long,int) " + A, "int save(int) " + I,
        "int restore(int) " + I + " " + S
    };

    public static void main(String[] args) throws Exception {
        checkMembers();
        checkSource(args.length > 0 ? args[0] : "src/main/java/ChestLetters.java");
        Check.end("FaceTest");
    }

    private static void checkMembers() {
        Class<?> c = ChestLetters.class;
        Check.is("the class is public and final", Modifier.toString(c.getModifiers()).equals("public final"), true);
        TreeSet<String> got = new TreeSet<>();
        for (Method m : c.getDeclaredMethods()) {
            if (Modifier.isPublic(m.getModifiers())) {
                got.add(told(m));
            } else {
                Check.is(m + " is private", Modifier.isPrivate(m.getModifiers()), true);
                Check.is(m + " has a name of its own", Arrays.toString(FACE).contains(" " + m.getName() + "("), false);
            }
        }
        TreeSet<String> due = new TreeSet<>(Arrays.asList(FACE));
        Check.is("the methods " + got + " are those of the document", got.equals(due), true);
        Constructor<?>[] constructors = c.getConstructors();
        Check.is("constructors", c.getDeclaredConstructors().length, 1);
        Check.is("public constructors", constructors.length, 1);
        Check.is("parameters of the constructor", constructors[0].getParameterCount(), 0);
        for (Field f : c.getDeclaredFields()) {
            boolean isNone = f.getName().equals("NONE");
            Check.is(f + " is private", Modifier.isPrivate(f.getModifiers()), !isNone);
        }
        Check.is("NONE", ChestLetters.NONE, -9);
    }

    private static String told(Method m) {
        List<String> parameters = new ArrayList<>();
        for (Class<?> p : m.getParameterTypes()) {
            parameters.add(p.getSimpleName());
        }
        StringBuilder b = new StringBuilder(m.getReturnType().getSimpleName() + " " + m.getName());
        b.append("(").append(String.join(",", parameters)).append(")");
        for (Class<?> e : m.getExceptionTypes()) {
            b.append(" ").append(e.getSimpleName());
        }
        return b.toString();
    }

    private static void checkSource(String file) throws Exception {
        String source = new String(Files.readAllBytes(Path.of(file)), "US-ASCII");
        String[] ruledOut = {
            "->", "::", "import ", "package ", "try {", "catch (", "finally", "synchronized", "assert ", "instanceof",
            "Random", "currentTimeMillis", "nanoTime", "System.out", "\"\"\"", "@", "static {"
        };
        for (String sign : ruledOut) {
            Check.is("the source has " + sign, source.contains(sign), false);
        }
    }
}
