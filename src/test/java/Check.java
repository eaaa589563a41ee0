import java.util.concurrent.Callable;

/** Counts the answers that are not as due, and prints them. */
final class Check {
    static final Class<?> INDEX = IndexOutOfBoundsException.class;
    static final Class<?> ARGUMENT = IllegalArgumentException.class;
    static final Class<?> STATE = IllegalStateException.class;

    private static int wrong = 0;
    private static int asked = 0;

    private Check() {
    }

    static void is(String what, long got, long due) {
        asked++;
        if (got != due) {
            wrong++;
            System.out.println(what + " answered " + got + ", due is " + due);
        }
    }

    static void is(String what, boolean got, boolean due) {
        is(what, got ? 1 : 0, due ? 1 : 0);
    }

    /** The call must throw this very class: what the machine throws is often a class below it. */
    static void fails(String what, Class<?> due, Callable<?> call) {
        asked++;
        String got;
        try {
            got = "answered " + call.call();
        } catch (Exception e) {
            if (e.getClass() == due) {
                return;
            }
            got = "threw " + e.getClass().getName();
        }
        wrong++;
        System.out.println(what + " " + got + ", due is throwing " + due.getName());
    }

    static ChestLetters write(ChestLetters x, String text) {
        x.clearText();
        for (int i = 0; i < text.length(); i++) {
            x.append(text.charAt(i));
        }
        return x;
    }

    /** A new object with the hunt of this text. */
    static ChestLetters hunt(String text) {
        ChestLetters x = write(new ChestLetters(), text);
        x.load();
        return x;
    }

    /** The same with one team, which has visited these places. */
    static ChestLetters walked(String text, int... places) {
        ChestLetters x = hunt(text);
        x.addTeam();
        for (int p : places) {
            x.go(0, p);
        }
        return x;
    }

    static void end(String test) {
        System.out.println(test + ": " + asked + " answers, " + wrong + " not as due");
        if (wrong > 0) {
            System.exit(1);
        }
    }
}
