import java.util.ArrayList;
import java.util.HashMap;
import java.util.HashSet;
import java.util.List;
import java.util.Map;
import java.util.Set;

/**
 * The document once more, by other means than the class uses: it reads texts by recursive descent,
 * walks every order of visits one by one, and copies whole worlds. RandomRunsTest compares both.
 */
final class HuntModel {
    static final int NONE = -9;

    private interface Condition {
        boolean on(int set);
    }

    private static final class Team {
        List<Integer> trail = new ArrayList<>();
        int minutes;
        int hints;

        Team copy() {
            Team t = new Team();
            t.trail = new ArrayList<>(trail);
            t.minutes = minutes;
            t.hints = hints;
            return t;
        }

        int visited() {
            int set = 0;
            for (int p : trail) {
                set |= 1 << p;
            }
            return set;
        }

        int here() {
            return trail.isEmpty() ? NONE : trail.get(trail.size() - 1);
        }
    }

    private static final class World {
        List<int[]> at = new ArrayList<>();
        List<Condition> conditions = new ArrayList<>();
        List<Team> teams = new ArrayList<>();

        World copy() {
            World w = new World();
            for (int[] xy : at) {
                w.at.add(xy.clone());
            }
            w.conditions = new ArrayList<>(conditions);
            for (Team t : teams) {
                w.teams.add(t.copy());
            }
            return w;
        }

        int count() {
            return at.size();
        }

        int chest() {
            return at.size() - 1;
        }

        boolean ended(int set) {
            return (set & 1 << chest()) != 0;
        }

        boolean mayEnter(int p, int set) {
            return !ended(set) && (set & 1 << p) == 0 && conditions.get(p).on(set);
        }

        int minutes(int from, int to) {
            int[] a = from == NONE ? new int[2] : at.get(from);
            int[] b = at.get(to);
            return Math.abs(a[0] - b[0]) + Math.abs(a[1] - b[1]) + 1;
        }
    }

    private static final class Misread extends RuntimeException {
        private static final long serialVersionUID = 1L;
        final int at;

        Misread(int at) {
            this.at = at;
        }
    }

    private final StringBuilder text = new StringBuilder();
    private World now = new World();
    private final List<World> past = new ArrayList<>();
    private final World[] slots = new World[2];

    HuntModel() {
        now.at.add(new int[2]);
        now.at.add(new int[2]);
        now.conditions.add(set -> true);
        now.conditions.add(set -> (set & 1) != 0);
    }

    // ---- text

    int append(int c) {
        argument(c >= 0 && c <= 255);
        state(text.length() < 120);
        text.append((char) c);
        return text.length();
    }

    int clearText() {
        int before = text.length();
        text.setLength(0);
        return before;
    }

    private int at;

    int errorPosition() {
        try {
            read();
            return NONE;
        } catch (Misread e) {
            return e.at;
        }
    }

    int load() {
        World read;
        try {
            read = read();
        } catch (Misread e) {
            throw new IllegalStateException();
        }
        now = read;
        past.clear();
        slots[0] = null;
        slots[1] = null;
        return now.count();
    }

    private int sign() {
        return at < text.length() ? text.charAt(at) : -1;
    }

    private void take(int c) {
        if (sign() != c) {
            throw new Misread(at);
        }
        at++;
    }

    private int digit() {
        if (sign() < '0' || sign() > '9') {
            throw new Misread(at);
        }
        at++;
        return text.charAt(at - 1) - '0';
    }

    private World read() {
        World w = new World();
        at = 0;
        take('H');
        while (w.count() < 2 || w.count() < 10 && at < text.length()) {
            take('/');
            int[] xy = {digit(), digit()};
            Condition c = condition(w.count());
            w.at.add(xy);
            w.conditions.add(c);
        }
        if (at < text.length()) {
            throw new Misread(at);
        }
        return w;
    }

    private Condition condition(int told) {
        Condition c = group(told);
        while (sign() == '+') {
            at++;
            Condition left = c;
            Condition right = group(told);
            c = set -> left.on(set) || right.on(set);
        }
        return c;
    }

    private Condition group(int told) {
        Condition c = part(told);
        while (sign() == '.') {
            at++;
            Condition left = c;
            Condition right = part(told);
            c = set -> left.on(set) && right.on(set);
        }
        return c;
    }

    private Condition part(int told) {
        int c = sign();
        if (c == '*') {
            at++;
            return set -> true;
        }
        if (c >= 'a' && c < 'a' + told) {
            at++;
            return set -> (set & 1 << c - 'a') != 0;
        }
        if (c == '!') {
            at++;
            Condition inner = part(told);
            return set -> !inner.on(set);
        }
        if (c == '(') {
            at++;
            Condition inner = condition(told);
            take(')');
            return inner;
        }
        if (c >= '1' && c <= '4') {
            at++;
            take('[');
            List<Condition> list = new ArrayList<>();
            list.add(condition(told));
            while (sign() == ',') {
                at++;
                list.add(condition(told));
            }
            take(']');
            return set -> {
                int n = 0;
                for (Condition one : list) {
                    n += one.on(set) ? 1 : 0;
                }
                return n >= c - '0';
            };
        }
        throw new Misread(at);
    }

    // ---- what there is

    int about(int what) {
        argument(what >= 0 && what <= 5);
        int ended = 0;
        int greatest = 0;
        int visited = 0;
        int hints = 0;
        for (int t = 0; t < now.teams.size(); t++) {
            ended += now.ended(now.teams.get(t).visited()) ? 1 : 0;
            greatest = Math.max(greatest, score(now.teams.get(t)));
            visited |= now.teams.get(t).visited();
            hints += now.teams.get(t).hints;
        }
        int[] all = {now.count(), now.teams.size(), ended, greatest, Integer.bitCount(visited), hints};
        return all[what];
    }

    private int score(Team t) {
        return now.ended(t.visited()) ? Math.max(0, 200 - t.minutes - 10 * t.hints) : 0;
    }

    int place(int p, int what) {
        index(p >= 0 && p < now.count());
        argument(what >= 0 && what <= 3);
        int visitors = 0;
        for (Team t : now.teams) {
            visitors += t.trail.contains(p) ? 1 : 0;
        }
        int[] all = {now.at.get(p)[0], now.at.get(p)[1], visitors, setsFor(p)};
        return all[what];
    }

    private int setsFor(int p) {
        int sets = 0;
        for (int set = 0; set < 1 << now.count(); set++) {
            sets += (set & 1 << p) == 0 && now.conditions.get(p).on(set) ? 1 : 0;
        }
        return sets;
    }

    boolean holds(int p, int set) {
        index(p >= 0 && p < now.count());
        argument(set >= 0 && set < 1 << now.count());
        return now.conditions.get(p).on(set);
    }

    int team(int t, int what) {
        index(t >= 0 && t < now.teams.size());
        argument(what >= 0 && what <= 5);
        Team team = now.teams.get(t);
        int[] all = {team.visited(), team.trail.size(), team.minutes, team.hints, score(team), team.here()};
        return all[what];
    }

    int trail(int t, int i) {
        index(t >= 0 && t < now.teams.size());
        argument(i >= 0);
        List<Integer> trail = now.teams.get(t).trail;
        return i < trail.size() ? trail.get(i) : NONE;
    }

    int open(int t) {
        index(t >= 0 && t < now.teams.size());
        return openOf(now, now.teams.get(t).visited());
    }

    private static int openOf(World w, int set) {
        int open = 0;
        for (int p = 0; p < w.count(); p++) {
            open |= w.mayEnter(p, set) ? 1 << p : 0;
        }
        return open;
    }

    // ---- actions

    private void remember() {
        past.add(now.copy());
        if (past.size() > 14) {
            past.remove(0);
        }
    }

    int addTeam() {
        state(now.teams.size() < 4);
        remember();
        now.teams.add(new Team());
        return now.teams.size() - 1;
    }

    int go(int t, int p) {
        index(t >= 0 && t < now.teams.size() && p >= 0 && p < now.count());
        Team team = now.teams.get(t);
        state(now.mayEnter(p, team.visited()));
        remember();
        team.minutes += now.minutes(team.here(), p);
        team.trail.add(p);
        return team.minutes;
    }

    int hint(int t) {
        int safe = safe(t);
        state(safe != 0);
        remember();
        now.teams.get(t).hints++;
        return Integer.numberOfTrailingZeros(safe);
    }

    int giveUp(int t) {
        index(t >= 0 && t < now.teams.size());
        remember();
        now.teams.remove(t);
        return now.teams.size();
    }

    int move(int p, int x, int y) {
        index(p >= 0 && p < now.count());
        argument(x >= 0 && x <= 9 && y >= 0 && y <= 9);
        remember();
        int before = 10 * now.at.get(p)[0] + now.at.get(p)[1];
        now.at.set(p, new int[] {x, y});
        return before;
    }

    int ease(int p) {
        index(p >= 0 && p < now.count());
        remember();
        int before = setsFor(p);
        now.conditions.set(p, set -> true);
        return before;
    }

    int undo() {
        state(!past.isEmpty());
        now = past.remove(past.size() - 1);
        return past.size();
    }

    // ---- what would be

    /** All that every way to the chest says, gathered way by way. */
    private static final class Gathered {
        int ways;
        int fewest;
        int firstOfFewest;
        int quickest;
        int firstOfQuickest;
        int common = -1;

        void add(int first, int visits, int minutes, int places) {
            if (ways == 0 || visits < fewest || visits == fewest && first < firstOfFewest) {
                fewest = visits;
                firstOfFewest = first;
            }
            if (ways == 0 || minutes < quickest || minutes == quickest && first < firstOfQuickest) {
                quickest = minutes;
                firstOfQuickest = first;
            }
            common &= places;
            ways++;
        }
    }

    private static void walk(World w, int set, int here, int first, int visits, int minutes, int places, Gathered all) {
        for (int p = 0; p < w.count(); p++) {
            if (!w.mayEnter(p, set)) {
                continue;
            }
            int begun = first == NONE ? p : first;
            int spent = minutes + w.minutes(here, p);
            if (p == w.chest()) {
                all.add(begun, visits + 1, spent, places | 1 << p);
            } else {
                walk(w, set | 1 << p, p, begun, visits + 1, spent, places | 1 << p, all);
            }
        }
    }

    private Gathered gather(int t) {
        index(t >= 0 && t < now.teams.size());
        Team team = now.teams.get(t);
        Gathered all = new Gathered();
        walk(now, team.visited(), team.here(), NONE, 0, 0, 0, all);
        return all;
    }

    int shortest(int t, int what) {
        Gathered all = gather(t);
        argument(what == 0 || what == 1);
        if (now.ended(now.teams.get(t).visited())) {
            return what == 0 ? 0 : NONE;
        }
        return all.ways == 0 ? NONE : what == 0 ? all.fewest : all.firstOfFewest;
    }

    int quickest(int t, int what) {
        Gathered all = gather(t);
        argument(what == 0 || what == 1);
        if (now.ended(now.teams.get(t).visited())) {
            return what == 0 ? 0 : NONE;
        }
        return all.ways == 0 ? NONE : what == 0 ? all.quickest : all.firstOfQuickest;
    }

    int orders(int t) {
        Gathered all = gather(t);
        return now.ended(now.teams.get(t).visited()) ? 1 : all.ways;
    }

    int safe(int t) {
        index(t >= 0 && t < now.teams.size());
        return safeOf(now, now.teams.get(t).visited());
    }

    private static int safeOf(World w, int set) {
        Map<Integer, Boolean> known = new HashMap<>();
        int safe = 0;
        for (int p = 0; p < w.count(); p++) {
            if (w.mayEnter(p, set) && reaches(w, set | 1 << p, known)) {
                safe |= 1 << p;
            }
        }
        return safe;
    }

    int needed(int t) {
        Gathered all = gather(t);
        if (now.ended(now.teams.get(t).visited())) {
            return 0;
        }
        return all.ways == 0 ? NONE : all.common;
    }

    private static boolean reaches(World w, int set, Map<Integer, Boolean> known) {
        if (w.ended(set)) {
            return true;
        }
        if (!known.containsKey(set)) {
            boolean found = false;
            for (int p = 0; p < w.count() && !found; p++) {
                found = w.mayEnter(p, set) && reaches(w, set | 1 << p, known);
            }
            known.put(set, found);
        }
        return known.get(set);
    }

    private static void come(World w, int set, Set<Integer> seen) {
        if (w.ended(set) || !seen.add(set)) {
            return;
        }
        for (int p = 0; p < w.count(); p++) {
            if (w.mayEnter(p, set)) {
                come(w, set | 1 << p, seen);
            }
        }
    }

    private static int deadEndsOf(World w) {
        Set<Integer> seen = new HashSet<>();
        Map<Integer, Boolean> known = new HashMap<>();
        come(w, 0, seen);
        int dead = 0;
        for (int set : seen) {
            dead += reaches(w, set, known) ? 0 : 1;
        }
        return dead;
    }

    int deadEnds() {
        return deadEndsOf(now);
    }

    int easeBy() {
        if (deadEndsOf(now) == 0) {
            return NONE;
        }
        for (int p = 0; p < now.count(); p++) {
            World w = now.copy();
            w.conditions.set(p, set -> true);
            if (deadEndsOf(w) == 0) {
                return p;
            }
        }
        return NONE;
    }

    // ---- scripts, simulations

    int runScript(int n, long script) {
        argument(n >= 1 && n <= 4);
        argument(script >= 0 && Long.toString(script).length() <= 4 * n);
        StringBuilder digits = new StringBuilder(Long.toString(script));
        while (digits.length() < 4 * n) {
            digits.insert(0, '0');
        }
        HuntModel other = new HuntModel();
        other.now = now.copy();
        for (int i = 0; i < n; i++) {
            if (!other.succeeds(digits.substring(4 * i, 4 * i + 4))) {
                return i;
            }
        }
        return NONE;
    }

    private boolean succeeds(String group) {
        int b = group.charAt(1) - '0';
        int c = group.charAt(2) - '0';
        int d = group.charAt(3) - '0';
        try {
            if (group.matches("1..0")) {
                go(b, c);
            } else if (group.matches("2.00")) {
                hint(b);
            } else if (group.equals("3000")) {
                addTeam();
            } else if (group.matches("4.00")) {
                giveUp(b);
            } else if (group.matches("5..0")) {
                return c < now.count() && (safe(b) & 1 << c) != 0;
            } else if (group.matches("6...")) {
                return team(b, 2) <= Integer.parseInt(group.substring(2));
            } else if (group.matches("7...")) {
                move(b, c, d);
            } else if (group.matches("8.00")) {
                ease(b);
            } else {
                return group.matches("9..0") && team(b, 1) >= c;
            }
            return true;
        } catch (IndexOutOfBoundsException | IllegalStateException | IllegalArgumentException e) {
            return false;
        }
    }

    int simulate(long seed, int m) {
        argument(m >= 1 && m <= 50);
        long x = seed;
        int came = 0;
        int sum = 0;
        for (int i = 0; i < m; i++) {
            Team team = new Team();
            while (true) {
                List<Integer> choice = new ArrayList<>();
                for (int p = 0; p < now.count(); p++) {
                    if (now.mayEnter(p, team.visited())) {
                        choice.add(p);
                    }
                }
                if (choice.isEmpty()) {
                    break;
                }
                x = x * 6364136223846793005L + 1442695040888963407L;
                int r = (int) (x >>> 33);
                int p = choice.get(r % choice.size());
                team.minutes += now.minutes(team.here(), p);
                team.trail.add(p);
            }
            if (now.ended(team.visited())) {
                came++;
                sum += team.minutes;
            }
        }
        return 100000 * came + Math.min(sum, 99999);
    }

    // ---- save slots

    int save(int slot) {
        index(slot == 0 || slot == 1);
        slots[slot] = now.copy();
        return now.teams.size();
    }

    int restore(int slot) {
        index(slot == 0 || slot == 1);
        state(slots[slot] != null);
        now = slots[slot].copy();
        past.clear();
        return now.teams.size();
    }

    private static void index(boolean good) {
        if (!good) {
            throw new IndexOutOfBoundsException();
        }
    }

    private static void argument(boolean good) {
        if (!good) {
            throw new IllegalArgumentException();
        }
    }

    private static void state(boolean good) {
        if (!good) {
            throw new IllegalStateException();
        }
    }
}
