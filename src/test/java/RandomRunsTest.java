import java.lang.reflect.InvocationTargetException;
import java.lang.reflect.Method;
import java.util.ArrayList;
import java.util.HashMap;
import java.util.List;
import java.util.Map;

/** Runs of 512 calls on the class and on HuntModel; every answer and every exception must agree. */
public final class RandomRunsTest {
    private static final int RUNS = 1200;
    private static final String[] NAMES = {
        "append", "clearText", "errorPosition", "load", "about", "place", "holds", "team", "trail", "open",
        "addTeam", "go", "hint", "giveUp", "move", "ease", "undo", "shortest", "quickest", "orders", "safe",
        "needed", "deadEnds", "easeBy", "runScript", "simulate", "save", "restore"
    };
    /** How often each call comes in the part of a run behind its load. */
    private static final int[] WEIGHTS = {
        1, 0, 1, 1, 6, 6, 6, 8, 5, 6, 7, 30, 6, 3, 5, 3, 8, 5, 5, 5, 5, 5, 2, 2, 10, 2, 2, 3
    };

    private final Map<String, Method> real = new HashMap<>();
    private final Map<String, Method> model = new HashMap<>();
    private final Map<String, Integer> seen = new HashMap<>();
    private long number = 20261119;
    private int wrong;

    public static void main(String[] args) throws Exception {
        RandomRunsTest test = new RandomRunsTest();
        test.findMethods();
        for (int run = 0; run < RUNS && test.wrong < 5; run++) {
            test.run(run);
        }
        test.checkThatMuchWasSeen();
        System.out.println("RandomRunsTest: " + test.wrong + " answers not as due");
        if (test.wrong > 0) {
            System.exit(1);
        }
    }

    private void findMethods() {
        for (Method m : ChestLetters.class.getDeclaredMethods()) {
            real.put(m.getName(), m);
        }
        for (Method m : HuntModel.class.getDeclaredMethods()) {
            m.setAccessible(true);
            model.put(m.getName(), m);
        }
    }

    private int below(int n) {
        number = number * 6364136223846793005L + 1442695040888963407L;
        return (int) ((number >>> 33) % n);
    }

    private void run(int run) throws Exception {
        ChestLetters x = new ChestLetters();
        HuntModel y = new HuntModel();
        List<String> calls = new ArrayList<>();
        int left = 512;
        while (left > 0 && wrong == 0) {
            int part = Math.min(left, 60 + below(400));
            left -= part;
            if (run % 7 != 0) {
                part -= write(x, y, calls, text(), part - 2);
                same(x, y, calls, "errorPosition");
                same(x, y, calls, "load");
                part -= 2;
            }
            for (int i = 0; i < part && wrong == 0; i++) {
                String name = pick();
                same(x, y, calls, name, arguments(name, y.about(0)));
            }
        }
        if (wrong > 0) {
            for (String call : calls) {
                System.out.println(call);
            }
        }
    }

    private int write(ChestLetters x, HuntModel y, List<String> calls, String text, int most) throws Exception {
        same(x, y, calls, "clearText");
        int n = Math.min(text.length(), most);
        for (int i = 0; i < n; i++) {
            same(x, y, calls, "append", (int) text.charAt(i));
            if (below(40) == 0) {
                same(x, y, calls, "errorPosition");
            }
        }
        return n + 1;
    }

    private String text() {
        StringBuilder b = new StringBuilder("H");
        int n = below(6) == 0 ? 7 + below(5) : 2 + below(5);
        for (int p = 0; p < n; p++) {
            b.append('/').append(below(10)).append(below(10));
            condition(b, p, below(4) == 0 ? 3 : 1);
        }
        if (below(4) == 0 && b.length() > 0) {
            int where = below(b.length());
            String signs = "H/*!.+,()[]0123456789abcdefghijk #";
            switch (below(3)) {
                case 0: b.setCharAt(where, signs.charAt(below(signs.length()))); break;
                case 1: b.insert(where, signs.charAt(below(signs.length()))); break;
                default: b.deleteCharAt(where);
            }
        }
        return b.toString();
    }

    private void condition(StringBuilder b, int told, int depth) {
        int groups = below(3) == 0 ? 2 : 1;
        for (int g = 0; g < groups; g++) {
            b.append(g > 0 ? "+" : "");
            int parts = below(3) == 0 ? 2 : 1;
            for (int i = 0; i < parts; i++) {
                b.append(i > 0 ? "." : "");
                part(b, told, depth);
            }
        }
    }

    private void part(StringBuilder b, int told, int depth) {
        int kind = below(10);
        if (kind < 2) {
            b.append('!');
            part(b, told, depth);
        } else if (kind == 2 && depth > 0) {
            b.append('(');
            condition(b, told, depth - 1);
            b.append(')');
        } else if (kind == 3 && depth > 0) {
            b.append(1 + below(4)).append('[');
            int n = 1 + below(5);
            for (int i = 0; i < n; i++) {
                b.append(i > 0 ? "," : "");
                condition(b, told, depth - 1);
            }
            b.append(']');
        } else if (told == 0 || kind == 9) {
            b.append('*');
        } else {
            b.append((char) ('a' + below(told)));
        }
    }

    private String pick() {
        int sum = 0;
        for (int weight : WEIGHTS) {
            sum += weight;
        }
        int at = below(sum);
        int i = 0;
        while (at >= WEIGHTS[i]) {
            at -= WEIGHTS[i];
            i++;
        }
        return NAMES[i];
    }

    /** A number that is mostly from 0 to n - 1, and now and then beyond that or far away. */
    private int near(int n) {
        int kind = below(60);
        int[] far = {-1, n, Integer.MAX_VALUE, Integer.MIN_VALUE, 31, 32, 33, 64, 256, -9};
        return kind == 0 ? far[below(far.length)] : below(n);
    }

    private Object[] arguments(String name, int places) {
        switch (name) {
            case "append": return new Object[] {near(256)};
            case "about": return new Object[] {near(6)};
            case "place": return new Object[] {near(places), near(4)};
            case "holds": return new Object[] {near(places), near(1 << places)};
            case "team": return new Object[] {near(4), near(6)};
            case "trail": return new Object[] {near(4), near(11)};
            case "go": return new Object[] {near(4), near(places)};
            case "move": return new Object[] {near(places), near(10), near(10)};
            case "ease": return new Object[] {near(places)};
            case "shortest":
            case "quickest": return new Object[] {near(4), near(2)};
            case "runScript": return script(places);
            case "simulate": return new Object[] {below(4) == 0 ? below(9) - 4L : number, 1 + near(50)};
            case "save":
            case "restore": return new Object[] {near(2)};
            case "open":
            case "hint":
            case "giveUp":
            case "orders":
            case "safe":
            case "needed": return new Object[] {near(4)};
            default: return new Object[0];
        }
    }

    private Object[] script(int places) {
        int n = 1 + near(4);
        long commands = 0;
        for (int i = 0; i < n && i < 4; i++) {
            commands = commands * 10000 + command(places);
        }
        int kind = below(30);
        if (kind == 0) {
            commands = commands * 10 + below(10);
        } else if (kind == 1) {
            commands = -commands;
        } else if (kind == 2) {
            commands = Long.MAX_VALUE - below(2);
        }
        return new Object[] {n, commands};
    }

    private int command(int places) {
        int a = below(4);
        int b = below(Math.min(10, places + 1));
        int noise = below(25) == 0 ? 1 + below(100) : 0;
        switch (below(11)) {
            case 0:
            case 1: return 1000 + 100 * a + 10 * b + noise;
            case 2: return 2000 + 100 * a + noise;
            case 3: return 3000 + noise;
            case 4: return 4000 + 100 * a + noise;
            case 5: return 5000 + 100 * a + 10 * b + noise;
            case 6: return 6000 + 100 * a + below(100);
            case 7: return 7000 + 100 * b + below(100);
            case 8: return 8000 + 100 * b + noise;
            case 9: return 9000 + 100 * a + 10 * below(4) + noise;
            default: return below(10000);
        }
    }

    private void same(ChestLetters x, HuntModel y, List<String> calls, String name, Object... arguments)
            throws Exception {
        String got = answer(real.get(name), x, arguments);
        String due = answer(model.get(name), y, arguments);
        calls.add(name + java.util.Arrays.toString(arguments) + " -> " + got);
        String kind = name + (got.startsWith("throws") ? " " + got : "");
        seen.merge(kind, 1, Integer::sum);
        if (!got.equals(due)) {
            wrong++;
            calls.add("due is " + due);
        }
    }

    private static String answer(Method m, Object on, Object[] arguments) throws Exception {
        try {
            return String.valueOf(m.invoke(on, arguments));
        } catch (InvocationTargetException e) {
            return "throws " + e.getCause().getClass().getName();
        }
    }

    /** A test that never comes to a call's answers or exceptions would say nothing about it. */
    private void checkThatMuchWasSeen() {
        for (String name : NAMES) {
            if (seen.getOrDefault(name, 0) < 100) {
                wrong++;
                System.out.println("too few answers of " + name);
            }
            for (Class<?> e : real.get(name).getExceptionTypes()) {
                if (seen.getOrDefault(name + " throws " + e.getName(), 0) < 5) {
                    wrong++;
                    System.out.println("too few times " + e.getName() + " of " + name);
                }
            }
        }
    }
}
