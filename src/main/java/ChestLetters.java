/** A treasure hunt: places with riddles, teams that walk between them, and a chest at the last place. */
public final class ChestLetters {
    public static final int NONE = -9;

    private static final int MAX_PLACES = 10;
    private static final int MIN_PLACES = 2;
    private static final int MAX_COORDINATE = 9;
    private static final int MAX_TEAMS = 4;
    private static final int MAX_TEXT = 120;
    private static final int MAX_CHARACTER = 255;
    private static final int MAX_REMEMBERED = 14;
    private static final int SLOTS = 2;
    private static final int MAX_COMMANDS = 4;
    private static final int MAX_SIMULATED = 50;

    /** All sets of places. */
    private static final int SETS = 1 << MAX_PLACES;
    /** The sets without place 9: no condition asks for that one, as it could only be the chest. */
    private static final int LOW_SETS = SETS / 2;
    /** A condition's truth is told for 64 sets by one long. */
    private static final int WORDS = LOW_SETS / 64;

    private final Text text;
    private final Reader reader;
    private final Hunt hunt;
    private final State state;
    private final Memory memory;
    private final State[] slots;
    private final boolean[] saved;
    private final Ways ways;
    private final Script scripts;
    private final Simulation simulation;

    public ChestLetters() {
        text = new Text();
        reader = new Reader();
        hunt = new Hunt();
        state = new State(hunt);
        memory = new Memory(hunt);
        slots = new State[SLOTS];
        for (int slot = 0; slot < SLOTS; slot++) {
            slots[slot] = new State(hunt);
        }
        saved = new boolean[SLOTS];
        ways = new Ways(hunt);
        scripts = new Script(hunt, ways);
        simulation = new Simulation(hunt);
    }

    // ---- text

    public int append(int c) throws IllegalArgumentException, IllegalStateException {
        if (c < 0 || c > MAX_CHARACTER) {
            throw new IllegalArgumentException("no character code");
        }
        if (text.isFull()) {
            throw new IllegalStateException("the text is full");
        }
        return text.add(c);
    }

    public int clearText() {
        return text.empty();
    }

    public int errorPosition() {
        return reader.errorIn(text);
    }

    public int load() throws IllegalStateException {
        if (reader.errorIn(text) != NONE) {
            throw new IllegalStateException("the text is not a hunt");
        }
        hunt.take(reader);
        state.begin(reader);
        memory.forget();
        for (int slot = 0; slot < SLOTS; slot++) {
            saved[slot] = false;
        }
        return hunt.count();
    }

    // ---- what there is

    public int about(int what) throws IllegalArgumentException {
        switch (what) {
            case 0: return hunt.count();
            case 1: return state.teamCount();
            case 2: return state.teamsAt(hunt.chest());
            case 3: return state.greatestScore();
            case 4: return Integer.bitCount(state.visitedByAny());
            case 5: return state.allHints();
            default: throw new IllegalArgumentException("no such number");
        }
    }

    public int place(int p, int what) throws IndexOutOfBoundsException, IllegalArgumentException {
        requirePlace(p);
        switch (what) {
            case 0: return state.xOf(p);
            case 1: return state.yOf(p);
            case 2: return state.teamsAt(p);
            case 3: return state.setsThatOpen(p);
            default: throw new IllegalArgumentException("no such number");
        }
    }

    public boolean holds(int p, int set) throws IndexOutOfBoundsException, IllegalArgumentException {
        requirePlace(p);
        if (set < 0 || set > hunt.allPlaces()) {
            throw new IllegalArgumentException("no set of places");
        }
        return hunt.isHeld(p, set, state.easedPlaces());
    }

    public int team(int t, int what) throws IndexOutOfBoundsException, IllegalArgumentException {
        requireTeam(t);
        switch (what) {
            case 0: return state.visitedBy(t);
            case 1: return state.visitsOf(t);
            case 2: return state.minutesOf(t);
            case 3: return state.hintsOf(t);
            case 4: return state.scoreOf(t);
            case 5: return state.lastOf(t);
            default: throw new IllegalArgumentException("no such number");
        }
    }

    public int trail(int t, int i) throws IndexOutOfBoundsException, IllegalArgumentException {
        requireTeam(t);
        if (i < 0) {
            throw new IllegalArgumentException("no such visit");
        }
        return state.visitOf(t, i);
    }

    public int open(int t) throws IndexOutOfBoundsException {
        requireTeam(t);
        return state.openTo(t);
    }

    // ---- actions

    public int addTeam() throws IllegalStateException {
        if (!state.hasRoom()) {
            throw new IllegalStateException("there are 4 teams");
        }
        memory.keep(state);
        return state.enrol();
    }

    public int go(int t, int p) throws IndexOutOfBoundsException, IllegalStateException {
        requireTeam(t);
        requirePlace(p);
        if (!state.canVisit(t, p)) {
            throw new IllegalStateException("the team cannot visit it");
        }
        memory.keep(state);
        return state.visit(t, p);
    }

    public int hint(int t) throws IndexOutOfBoundsException, IllegalStateException {
        requireTeam(t);
        int safePlaces = ways.safeFor(state, t);
        if (safePlaces == 0) {
            throw new IllegalStateException("no place is safe for it");
        }
        memory.keep(state);
        state.countHint(t);
        return smallestOf(safePlaces);
    }

    public int giveUp(int t) throws IndexOutOfBoundsException {
        requireTeam(t);
        memory.keep(state);
        return state.dismiss(t);
    }

    public int move(int p, int x, int y) throws IndexOutOfBoundsException, IllegalArgumentException {
        requirePlace(p);
        if (x < 0 || x > MAX_COORDINATE || y < 0 || y > MAX_COORDINATE) {
            throw new IllegalArgumentException("no coordinate");
        }
        memory.keep(state);
        return state.put(p, x, y);
    }

    public int ease(int p) throws IndexOutOfBoundsException {
        requirePlace(p);
        memory.keep(state);
        int before = state.setsThatOpen(p);
        state.makeEasy(p);
        return before;
    }

    public int undo() throws IllegalStateException {
        if (memory.isEmpty()) {
            throw new IllegalStateException("no state is remembered");
        }
        return memory.takeBack(state);
    }

    // ---- what would be

    public int shortest(int t, int what) throws IndexOutOfBoundsException, IllegalArgumentException {
        requireTeam(t);
        requireZeroOrOne(what);
        return what == 0 ? ways.fewestVisits(state, t) : ways.firstOfShortest(state, t);
    }

    public int quickest(int t, int what) throws IndexOutOfBoundsException, IllegalArgumentException {
        requireTeam(t);
        requireZeroOrOne(what);
        return what == 0 ? ways.fewestMinutes(state, t) : ways.firstOfQuickest(state, t);
    }

    public int orders(int t) throws IndexOutOfBoundsException {
        requireTeam(t);
        return ways.ordersOf(state, t);
    }

    public int safe(int t) throws IndexOutOfBoundsException {
        requireTeam(t);
        return ways.safeFor(state, t);
    }

    public int needed(int t) throws IndexOutOfBoundsException {
        requireTeam(t);
        return ways.neededBy(state, t);
    }

    public int deadEnds() {
        return ways.countDeadEnds(state.easedPlaces());
    }

    public int easeBy() {
        int eased = state.easedPlaces();
        if (ways.countDeadEnds(eased) == 0) {
            return NONE;
        }
        for (int p = 0; p < hunt.count(); p++) {
            if (ways.countDeadEnds(eased | 1 << p) == 0) {
                return p;
            }
        }
        return NONE;
    }

    // ---- scripts, simulations

    public int runScript(int n, long script) throws IllegalArgumentException {
        if (n < 1 || n > MAX_COMMANDS) {
            throw new IllegalArgumentException("no such number of commands");
        }
        if (script < 0 || script >= Script.pastEnd(n)) {
            throw new IllegalArgumentException("the script is no number of so many digits");
        }
        scripts.begin(state);
        for (int i = 0; i < n; i++) {
            if (!scripts.succeeds(Script.groupAt(i, n, script))) {
                return i;
            }
        }
        return NONE;
    }

    public int simulate(long seed, int m) throws IllegalArgumentException {
        if (m < 1 || m > MAX_SIMULATED) {
            throw new IllegalArgumentException("no such number of teams");
        }
        return simulation.run(state, seed, m);
    }

    // ---- save slots

    public int save(int slot) throws IndexOutOfBoundsException {
        requireSlot(slot);
        slots[slot].copyFrom(state);
        saved[slot] = true;
        return state.teamCount();
    }

    public int restore(int slot) throws IndexOutOfBoundsException, IllegalStateException {
        requireSlot(slot);
        if (!saved[slot]) {
            throw new IllegalStateException("nothing is saved there");
        }
        state.copyFrom(slots[slot]);
        memory.forget();
        return state.teamCount();
    }

    // ---- what arguments must be

    private void requirePlace(int p) {
        if (!hunt.hasPlace(p)) {
            throw new IndexOutOfBoundsException("no such place");
        }
    }

    private void requireTeam(int t) {
        if (!state.hasTeam(t)) {
            throw new IndexOutOfBoundsException("no such team");
        }
    }

    private static void requireSlot(int slot) {
        if (slot < 0 || slot >= SLOTS) {
            throw new IndexOutOfBoundsException("no such save slot");
        }
    }

    private static void requireZeroOrOne(int what) {
        if (what != 0 && what != 1) {
            throw new IllegalArgumentException("no such number");
        }
    }

    // ---- sets of places

    private static boolean isIn(int p, int set) {
        return (set >> p & 1) != 0;
    }

    /** The smallest place of a set; NONE if it is empty. */
    private static int smallestOf(int set) {
        for (int p = 0; p < MAX_PLACES; p++) {
            if (isIn(p, set)) {
                return p;
            }
        }
        return NONE;
    }

    /** The text buffer. */
    private static final class Text {
        private final char[] signs = new char[MAX_TEXT];
        private int length;

        boolean isFull() {
            return length >= MAX_TEXT;
        }

        int length() {
            return length;
        }

        int add(int c) {
            if (length < MAX_TEXT) {
                signs[length] = (char) c;
                length++;
            }
            return length;
        }

        int empty() {
            int before = length;
            length = 0;
            return before;
        }

        char signAt(int i) {
            return i >= 0 && i < length ? signs[i] : 0;
        }
    }

    /** A stack of conditions, each told by the sets of places (without place 9) for which it holds. */
    private static final class Truths {
        /** The sets in which place 0, 1, .. 5 is, among any 64 that differ in these places alone. */
        private static final long[] VISITED = {
            0xAAAAAAAAAAAAAAAAL, 0xCCCCCCCCCCCCCCCCL, 0xF0F0F0F0F0F0F0F0L,
            0xFF00FF00FF00FF00L, 0xFFFF0000FFFF0000L, 0xFFFFFFFF00000000L
        };

        /** Each condition on the stack has a sign of the text of its own, so that these suffice. */
        private final long[] rows = new long[MAX_TEXT * WORDS];
        private int height;

        void clear() {
            height = 0;
        }

        void pushAlways() {
            if (height >= MAX_TEXT) {
                return;
            }
            for (int word = 0; word < WORDS; word++) {
                rows[height * WORDS + word] = -1L;
            }
            height++;
        }

        void pushVisited(int p) {
            if (height >= MAX_TEXT || p < 0) {
                return;
            }
            for (int word = 0; word < WORDS; word++) {
                rows[height * WORDS + word] = visitedIn(p, word);
            }
            height++;
        }

        private static long visitedIn(int p, int word) {
            if (p < VISITED.length) {
                return VISITED[p];
            }
            return isIn(p - VISITED.length, word) ? -1L : 0L;
        }

        void negate() {
            if (height < 1) {
                return;
            }
            int top = (height - 1) * WORDS;
            for (int word = 0; word < WORDS; word++) {
                rows[top + word] = ~rows[top + word];
            }
        }

        void joinByAnd() {
            if (height < 2) {
                return;
            }
            height--;
            for (int word = 0; word < WORDS; word++) {
                rows[(height - 1) * WORDS + word] &= rows[height * WORDS + word];
            }
        }

        void joinByOr() {
            if (height < 2) {
                return;
            }
            height--;
            for (int word = 0; word < WORDS; word++) {
                rows[(height - 1) * WORDS + word] |= rows[height * WORDS + word];
            }
        }

        /** Puts "at least n of them hold" in the place of the last conditions, as many as listed. */
        void joinByCount(int n, int listed) {
            if (listed < 1 || listed > height) {
                return;
            }
            int base = height - listed;
            for (int word = 0; word < WORDS; word++) {
                rows[base * WORDS + word] = atLeast(n, base, word);
            }
            height = base + 1;
        }

        private long atLeast(int n, int base, int word) {
            long one = 0;
            long two = 0;
            long three = 0;
            long four = 0;
            for (int row = base; row < height; row++) {
                long holding = rows[row * WORDS + word];
                four |= three & holding;
                three |= two & holding;
                two |= one & holding;
                one |= holding;
            }
            return n <= 1 ? one : n == 2 ? two : n == 3 ? three : four;
        }

        /** The word of the only condition that is left. */
        long result(int word) {
            return word >= 0 && word < WORDS ? rows[word] : 0L;
        }
    }

    /** Reads the text sign by sign, without recursion, since 120 signs may nest too deep for one. */
    private static final class Reader {
        private static final int HEAD = 0;
        private static final int SLASH = 1;
        private static final int X = 2;
        private static final int Y = 3;
        private static final int PART = 4;
        private static final int BRACKET = 5;
        private static final int JOIN = 6;

        private final Truths truths = new Truths();
        private final int[] x = new int[MAX_PLACES];
        private final int[] y = new int[MAX_PLACES];
        private final long[] tables = new long[MAX_PLACES * WORDS];
        /** For each condition that stands open: n if it is one of those behind n[, otherwise 0. */
        private final int[] least = new int[MAX_TEXT + 1];
        private final int[] listed = new int[MAX_TEXT + 1];
        private final boolean[] negated = new boolean[MAX_TEXT + 1];
        private final boolean[] hasPart = new boolean[MAX_TEXT + 1];
        private final boolean[] hasGroup = new boolean[MAX_TEXT + 1];
        private int depth;
        private int places;
        private int expected;

        /** The error position of the text; NONE if it is a hunt, which is then kept in the reader. */
        int errorIn(Text text) {
            places = 0;
            expected = HEAD;
            int end = text.length();
            for (int i = 0; i < end; i++) {
                if (!takes(text.signAt(i))) {
                    return i;
                }
            }
            if (expected != JOIN || depth != 0 || places < MIN_PLACES) {
                return end;
            }
            endCondition();
            keepCondition();
            return NONE;
        }

        int count() {
            return places;
        }

        int xOf(int p) {
            return p >= 0 && p < MAX_PLACES ? x[p] : 0;
        }

        int yOf(int p) {
            return p >= 0 && p < MAX_PLACES ? y[p] : 0;
        }

        /** The places whose conditions hold for a set. */
        int heldFor(int set) {
            int word = set / 64 % WORDS;
            int held = 0;
            for (int p = 0; p < places; p++) {
                if ((tables[p * WORDS + word] >>> (set & 63) & 1L) != 0) {
                    held |= 1 << p;
                }
            }
            return held;
        }

        private boolean takes(char c) {
            switch (expected) {
                case HEAD:
                    expected = SLASH;
                    return c == 'H';
                case SLASH:
                    return c == '/' && beginsPlace();
                case X:
                case Y:
                    return takesCoordinate(c);
                case PART:
                    return takesPart(c);
                case BRACKET:
                    expected = PART;
                    return c == '[';
                default:
                    return takesJoin(c);
            }
        }

        private boolean beginsPlace() {
            if (places >= MAX_PLACES) {
                return false;
            }
            places++;
            expected = X;
            return true;
        }

        private boolean takesCoordinate(char c) {
            if (c < '0' || c > '9') {
                return false;
            }
            if (expected == X) {
                x[places - 1] = c - '0';
                expected = Y;
            } else {
                y[places - 1] = c - '0';
                truths.clear();
                depth = 0;
                beginConditions(0);
                expected = PART;
            }
            return true;
        }

        private void beginConditions(int n) {
            least[depth] = n;
            listed[depth] = 0;
            negated[depth] = false;
            hasPart[depth] = false;
            hasGroup[depth] = false;
        }

        private boolean takesPart(char c) {
            if (c == '!') {
                negated[depth] = !negated[depth];
                return true;
            }
            if (c == '(') {
                return nests(0, PART);
            }
            if (c >= '1' && c <= '4') {
                return nests(c - '0', BRACKET);
            }
            if (c == '*') {
                truths.pushAlways();
            } else if (c >= 'a' && c < 'a' + places - 1) {
                truths.pushVisited(c - 'a');
            } else {
                return false;
            }
            endPart();
            return true;
        }

        private boolean nests(int n, int then) {
            if (depth >= MAX_TEXT) {
                return false;
            }
            depth++;
            beginConditions(n);
            expected = then;
            return true;
        }

        private boolean takesJoin(char c) {
            boolean inList = depth > 0 && least[depth] > 0;
            boolean inParentheses = depth > 0 && least[depth] == 0;
            if (c == '.') {
                expected = PART;
                return true;
            }
            if (c == '+') {
                endGroup();
                expected = PART;
                return true;
            }
            if (c == ',' && inList) {
                endCondition();
                expected = PART;
                return true;
            }
            if (c == ']' && inList) {
                endCondition();
                truths.joinByCount(least[depth], listed[depth]);
                depth--;
                endPart();
                return true;
            }
            if (c == ')' && inParentheses) {
                endCondition();
                depth--;
                endPart();
                return true;
            }
            if (c == '/' && depth == 0) {
                endCondition();
                keepCondition();
                return beginsPlace();
            }
            return false;
        }

        private void endPart() {
            if (negated[depth]) {
                truths.negate();
                negated[depth] = false;
            }
            if (hasPart[depth]) {
                truths.joinByAnd();
            }
            hasPart[depth] = true;
            expected = JOIN;
        }

        private void endGroup() {
            if (hasGroup[depth]) {
                truths.joinByOr();
            }
            hasGroup[depth] = true;
            hasPart[depth] = false;
        }

        private void endCondition() {
            endGroup();
            hasGroup[depth] = false;
            listed[depth]++;
        }

        private void keepCondition() {
            for (int word = 0; word < WORDS; word++) {
                tables[(places - 1) * WORDS + word] = truths.result(word);
            }
        }
    }

    /** What stays from one load to the next: how many places there are, and their own conditions. */
    private static final class Hunt {
        private final int[] held = new int[LOW_SETS];
        private int places;

        Hunt() {
            places = MIN_PLACES;
            for (int set = 0; set < LOW_SETS; set++) {
                held[set] = 1 | (set & 1) << 1;
            }
        }

        void take(Reader reader) {
            places = reader.count();
            for (int set = 0; set < LOW_SETS; set++) {
                held[set] = reader.heldFor(set);
            }
        }

        int count() {
            return places;
        }

        int chest() {
            return places - 1;
        }

        int allPlaces() {
            return (1 << places) - 1;
        }

        boolean hasPlace(int p) {
            return p >= 0 && p < places;
        }

        boolean hasChest(int set) {
            return (set >> (places - 1) & 1) != 0;
        }

        boolean isHeld(int p, int set, int eased) {
            return isIn(p, held[set & (LOW_SETS - 1)] | eased);
        }

        /** The places that can be visited if those of the set were, and if some were made easier. */
        int openAfter(int set, int eased) {
            boolean hasEnded = (set >> (places - 1) & 1) != 0;
            return hasEnded ? 0 : (held[set & (LOW_SETS - 1)] | eased) & ~set;
        }
    }

    /** What actions change: coordinates, places made easier, teams. */
    private static final class State {
        private final Hunt hunt;
        private final int[] x = new int[MAX_PLACES];
        private final int[] y = new int[MAX_PLACES];
        private final int[] visited = new int[MAX_TEAMS];
        private final int[] visits = new int[MAX_TEAMS];
        private final int[] minutes = new int[MAX_TEAMS];
        private final int[] hints = new int[MAX_TEAMS];
        private final int[] trails = new int[MAX_TEAMS * MAX_PLACES];
        private int eased;
        private int teams;

        State(Hunt hunt) {
            this.hunt = hunt;
        }

        void begin(Reader reader) {
            for (int p = 0; p < MAX_PLACES; p++) {
                x[p] = reader.xOf(p);
                y[p] = reader.yOf(p);
            }
            eased = 0;
            teams = 0;
        }

        void copyFrom(State other) {
            System.arraycopy(other.x, 0, x, 0, MAX_PLACES);
            System.arraycopy(other.y, 0, y, 0, MAX_PLACES);
            System.arraycopy(other.visited, 0, visited, 0, MAX_TEAMS);
            System.arraycopy(other.visits, 0, visits, 0, MAX_TEAMS);
            System.arraycopy(other.minutes, 0, minutes, 0, MAX_TEAMS);
            System.arraycopy(other.hints, 0, hints, 0, MAX_TEAMS);
            System.arraycopy(other.trails, 0, trails, 0, MAX_TEAMS * MAX_PLACES);
            eased = other.eased;
            teams = other.teams;
        }

        int xOf(int p) {
            return p >= 0 && p < MAX_PLACES ? x[p] : 0;
        }

        int yOf(int p) {
            return p >= 0 && p < MAX_PLACES ? y[p] : 0;
        }

        int easedPlaces() {
            return eased;
        }

        /** For how many of the sets of places without p its condition holds. */
        int setsThatOpen(int p) {
            int count = 0;
            for (int set = 0; set <= hunt.allPlaces(); set++) {
                if (!isIn(p, set) && hunt.isHeld(p, set, eased)) {
                    count++;
                }
            }
            return count;
        }

        /** The minutes from a place, or from the camp if that is NONE, to visit another one. */
        int minutesBetween(int from, int to) {
            return Math.abs(xOf(from) - xOf(to)) + Math.abs(yOf(from) - yOf(to)) + 1;
        }

        int teamCount() {
            return teams;
        }

        boolean hasTeam(int t) {
            return t >= 0 && t < teams;
        }

        boolean hasRoom() {
            return teams < MAX_TEAMS;
        }

        int visitedBy(int t) {
            return hasTeam(t) ? visited[t] : 0;
        }

        int visitsOf(int t) {
            return hasTeam(t) ? visits[t] : 0;
        }

        int minutesOf(int t) {
            return hasTeam(t) ? minutes[t] : 0;
        }

        int hintsOf(int t) {
            return hasTeam(t) ? hints[t] : 0;
        }

        int scoreOf(int t) {
            if (!hunt.hasChest(visitedBy(t))) {
                return 0;
            }
            return Math.max(0, 200 - minutesOf(t) - 10 * hintsOf(t));
        }

        int visitOf(int t, int i) {
            return hasTeam(t) && i >= 0 && i < visits[t] ? trails[t * MAX_PLACES + i] : NONE;
        }

        int lastOf(int t) {
            return hasTeam(t) ? visitOf(t, visits[t] - 1) : NONE;
        }

        int openTo(int t) {
            return hasTeam(t) ? hunt.openAfter(visited[t], eased) : 0;
        }

        boolean canVisit(int t, int p) {
            return hunt.hasPlace(p) && isIn(p, openTo(t));
        }

        int teamsAt(int p) {
            int count = 0;
            for (int t = 0; t < teams; t++) {
                if (isIn(p, visited[t])) {
                    count++;
                }
            }
            return count;
        }

        int greatestScore() {
            int greatest = 0;
            for (int t = 0; t < teams; t++) {
                greatest = Math.max(greatest, scoreOf(t));
            }
            return greatest;
        }

        int visitedByAny() {
            int any = 0;
            for (int t = 0; t < teams; t++) {
                any |= visited[t];
            }
            return any;
        }

        int allHints() {
            int sum = 0;
            for (int t = 0; t < teams; t++) {
                sum += hints[t];
            }
            return sum;
        }

        int enrol() {
            if (!hasRoom()) {
                return NONE;
            }
            visited[teams] = 0;
            visits[teams] = 0;
            minutes[teams] = 0;
            hints[teams] = 0;
            teams++;
            return teams - 1;
        }

        int visit(int t, int p) {
            if (!canVisit(t, p) || visits[t] >= MAX_PLACES) {
                return NONE;
            }
            minutes[t] += minutesBetween(lastOf(t), p);
            trails[t * MAX_PLACES + visits[t]] = p;
            visits[t]++;
            visited[t] |= 1 << p;
            return minutes[t];
        }

        void countHint(int t) {
            if (hasTeam(t)) {
                hints[t]++;
            }
        }

        int dismiss(int t) {
            if (hasTeam(t)) {
                for (int to = t; to + 1 < teams; to++) {
                    copyTeam(to + 1, to);
                }
                teams--;
            }
            return teams;
        }

        private void copyTeam(int from, int to) {
            visited[to] = visited[from];
            visits[to] = visits[from];
            minutes[to] = minutes[from];
            hints[to] = hints[from];
            System.arraycopy(trails, from * MAX_PLACES, trails, to * MAX_PLACES, MAX_PLACES);
        }

        int put(int p, int newX, int newY) {
            if (!hunt.hasPlace(p)) {
                return NONE;
            }
            int before = 10 * x[p] + y[p];
            x[p] = newX;
            y[p] = newY;
            return before;
        }

        void makeEasy(int p) {
            if (hunt.hasPlace(p)) {
                eased |= 1 << p;
            }
        }
    }

    /** The remembered states, in a ring, so that the oldest one makes room for the newest. */
    private static final class Memory {
        private final State[] ring = new State[MAX_REMEMBERED];
        private int free;
        private int count;

        Memory(Hunt hunt) {
            for (int i = 0; i < MAX_REMEMBERED; i++) {
                ring[i] = new State(hunt);
            }
        }

        boolean isEmpty() {
            return count == 0;
        }

        void forget() {
            count = 0;
        }

        void keep(State state) {
            ring[free].copyFrom(state);
            free = (free + 1) % MAX_REMEMBERED;
            count = Math.min(count + 1, MAX_REMEMBERED);
        }

        int takeBack(State state) {
            if (count > 0) {
                free = (free + MAX_REMEMBERED - 1) % MAX_REMEMBERED;
                state.copyFrom(ring[free]);
                count--;
            }
            return count;
        }
    }

    /** What could come: for each set of places that can come to be visited, the ways on to the chest. */
    private static final class Ways {
        private static final int NEVER = -1;
        private static final int CAMP = MAX_PLACES;

        private final Hunt hunt;
        /** The places that can be visited next; NEVER for a set that cannot come to be visited. */
        private final int[] next = new int[SETS];
        /** Those of them behind which the chest can be reached. */
        private final int[] leading = new int[SETS];
        private final int[] orders = new int[SETS];
        private final int[] fewest = new int[SETS];
        private final int[] common = new int[SETS];
        /** The minutes to the chest, by the set and the place where the team is then. */
        private final int[] minutes = new int[LOW_SETS * MAX_PLACES];
        /** The minutes of one visit, by the place (or CAMP) where the team is, and the place that it visits. */
        private final int[] steps = new int[(MAX_PLACES + 1) * MAX_PLACES];

        Ways(Hunt hunt) {
            this.hunt = hunt;
        }

        int ordersOf(State state, int t) {
            int from = state.visitedBy(t);
            lookFrom(from, state.easedPlaces());
            return orders[from];
        }

        int neededBy(State state, int t) {
            int from = state.visitedBy(t);
            lookFrom(from, state.easedPlaces());
            return orders[from] == 0 ? NONE : common[from];
        }

        int safeFor(State state, int t) {
            int from = state.visitedBy(t);
            lookFrom(from, state.easedPlaces());
            return leading[from];
        }

        int fewestVisits(State state, int t) {
            int from = state.visitedBy(t);
            lookFrom(from, state.easedPlaces());
            return orders[from] == 0 ? NONE : fewest[from];
        }

        int firstOfShortest(State state, int t) {
            int from = state.visitedBy(t);
            lookFrom(from, state.easedPlaces());
            for (int p = 0; p < hunt.count(); p++) {
                if (isIn(p, leading[from]) && fewest[from | 1 << p] + 1 == fewest[from]) {
                    return p;
                }
            }
            return NONE;
        }

        int fewestMinutes(State state, int t) {
            int from = state.visitedBy(t);
            lookFrom(from, state.easedPlaces());
            weighMinutes(state, from);
            return orders[from] == 0 ? NONE : minutesFrom(from, whereIs(state, t));
        }

        int firstOfQuickest(State state, int t) {
            int from = state.visitedBy(t);
            int here = whereIs(state, t);
            lookFrom(from, state.easedPlaces());
            weighMinutes(state, from);
            int least = minutesFrom(from, here);
            for (int p = 0; p < hunt.count(); p++) {
                if (isIn(p, leading[from]) && minutesBy(from, here, p) == least) {
                    return p;
                }
            }
            return NONE;
        }

        /** How many sets can come to be visited from the beginning on, but lead to no chest. */
        int countDeadEnds(int eased) {
            lookFrom(0, eased);
            int all = hunt.allPlaces();
            int count = 0;
            for (int set = 0; set <= all; set++) {
                if (next[set] != NEVER && orders[set] == 0) {
                    count++;
                }
            }
            return count;
        }

        private void lookFrom(int from, int eased) {
            spread(from, eased);
            for (int set = hunt.allPlaces(); set >= from; set--) {
                if (next[set] != NEVER) {
                    weigh(set);
                }
            }
        }

        /** Marks the sets that can come to be visited; a visit always leads to a greater number. */
        private void spread(int from, int eased) {
            int all = hunt.allPlaces();
            for (int set = 0; set <= all; set++) {
                next[set] = NEVER;
            }
            next[from] = 0;
            for (int set = from; set <= all; set++) {
                if (next[set] == NEVER) {
                    continue;
                }
                int open = hunt.openAfter(set, eased);
                next[set] = open;
                for (int p = 0; p < MAX_PLACES; p++) {
                    if ((open >> p & 1) != 0) {
                        next[set | 1 << p] = 0;
                    }
                }
            }
        }

        /** Gathers what the greater sets say, to which the visits from this one lead. */
        private void weigh(int set) {
            boolean ended = hunt.hasChest(set);
            int open = next[set];
            int onward = 0;
            int ways = ended ? 1 : 0;
            int least = 0;
            int inAll = ended ? 0 : hunt.allPlaces();
            for (int p = 0; p < MAX_PLACES; p++) {
                int then = set | 1 << p;
                if ((open >> p & 1) != 0 && orders[then] > 0) {
                    least = onward == 0 ? fewest[then] + 1 : Math.min(least, fewest[then] + 1);
                    onward |= 1 << p;
                    ways += orders[then];
                    inAll &= common[then] | 1 << p;
                }
            }
            leading[set] = onward;
            orders[set] = ways;
            fewest[set] = least;
            common[set] = inAll;
        }

        private static int whereIs(State state, int t) {
            int last = state.lastOf(t);
            return last == NONE ? CAMP : last;
        }

        private void measure(State state) {
            for (int to = 0; to < MAX_PLACES; to++) {
                for (int here = 0; here < MAX_PLACES; here++) {
                    steps[here * MAX_PLACES + to] = state.minutesBetween(here, to);
                }
                steps[CAMP * MAX_PLACES + to] = state.minutesBetween(NONE, to);
            }
        }

        private void weighMinutes(State state, int from) {
            measure(state);
            int chest = hunt.chest();
            // A set that has the chest needs no minutes, and is not asked for.
            for (int set = (1 << chest) - 1; set > from; set--) {
                if (next[set] == NEVER || orders[set] == 0) {
                    continue;
                }
                for (int here = 0; here < chest; here++) {
                    if (isIn(here, set & ~from)) {
                        minutes[set * MAX_PLACES + here] = minutesFrom(set, here);
                    }
                }
            }
        }

        /** The fewest minutes to the chest; 0 if it was visited. */
        private int minutesFrom(int set, int here) {
            int onward = leading[set];
            int least = 0;
            boolean found = false;
            for (int p = 0; p < MAX_PLACES; p++) {
                if ((onward >> p & 1) != 0) {
                    int byPlace = minutesBy(set, here, p);
                    least = found ? Math.min(least, byPlace) : byPlace;
                    found = true;
                }
            }
            return least;
        }

        private int minutesBy(int set, int here, int p) {
            int then = set | 1 << p;
            int rest = hunt.hasChest(then) ? 0 : minutes[then * MAX_PLACES + p];
            return steps[here * MAX_PLACES + p] + rest;
        }
    }

    /** Runs commands on a copy of the state. */
    private static final class Script {
        private static final int GROUP = 10000;

        private final Hunt hunt;
        private final Ways ways;
        private final State copy;

        Script(Hunt hunt, Ways ways) {
            this.hunt = hunt;
            this.ways = ways;
            copy = new State(hunt);
        }

        /** The smallest number that has more digits than n commands. */
        static long pastEnd(int n) {
            long past = 1;
            for (int i = 0; i < n && i < MAX_COMMANDS; i++) {
                past *= GROUP;
            }
            return past;
        }

        /** The command i of n, as a number of four digits. */
        static int groupAt(int i, int n, long commands) {
            long rest = commands;
            for (int behind = n - 1; behind > i; behind--) {
                rest /= GROUP;
            }
            return (int) (rest % GROUP);
        }

        void begin(State state) {
            copy.copyFrom(state);
        }

        boolean succeeds(int command) {
            int d2 = command / 100 % 10;
            int d3 = command / 10 % 10;
            int d4 = command % 10;
            switch (command / 1000) {
                case 1: return d4 == 0 && visits(d2, d3);
                case 2: return d3 == 0 && d4 == 0 && getsHint(d2);
                case 3: return d2 == 0 && d3 == 0 && d4 == 0 && enrols();
                case 4: return d3 == 0 && d4 == 0 && givesUp(d2);
                case 5: return d4 == 0 && isSafe(d2, d3);
                case 6: return copy.hasTeam(d2) && copy.minutesOf(d2) <= 10 * d3 + d4;
                case 7: return moves(d2, d3, d4);
                case 8: return d3 == 0 && d4 == 0 && eases(d2);
                case 9: return d4 == 0 && copy.hasTeam(d2) && copy.visitsOf(d2) >= d3;
                default: return false;
            }
        }

        private boolean visits(int t, int p) {
            if (!copy.canVisit(t, p)) {
                return false;
            }
            copy.visit(t, p);
            return true;
        }

        private boolean getsHint(int t) {
            if (!copy.hasTeam(t) || ways.safeFor(copy, t) == 0) {
                return false;
            }
            copy.countHint(t);
            return true;
        }

        private boolean enrols() {
            if (!copy.hasRoom()) {
                return false;
            }
            copy.enrol();
            return true;
        }

        private boolean givesUp(int t) {
            if (!copy.hasTeam(t)) {
                return false;
            }
            copy.dismiss(t);
            return true;
        }

        private boolean isSafe(int t, int p) {
            return copy.hasTeam(t) && hunt.hasPlace(p) && isIn(p, ways.safeFor(copy, t));
        }

        private boolean moves(int p, int x, int y) {
            if (!hunt.hasPlace(p)) {
                return false;
            }
            copy.put(p, x, y);
            return true;
        }

        private boolean eases(int p) {
            if (!hunt.hasPlace(p)) {
                return false;
            }
            copy.makeEasy(p);
            return true;
        }
    }

    /** Teams that walk at random, by a row of numbers that the seed decides. */
    private static final class Simulation {
        private static final int MOST_MINUTES = 99999;

        private final Hunt hunt;
        private long number;

        Simulation(Hunt hunt) {
            this.hunt = hunt;
        }

        int run(State state, long seed, int teams) {
            number = seed;
            int arrived = 0;
            int minutes = 0;
            for (int i = 0; i < teams; i++) {
                int taken = walk(state);
                if (taken != NONE) {
                    arrived++;
                    minutes += taken;
                }
            }
            return (MOST_MINUTES + 1) * arrived + Math.min(minutes, MOST_MINUTES);
        }

        /** The minutes in which a team comes to the chest; NONE if it does not. */
        private int walk(State state) {
            int visited = 0;
            int here = NONE;
            int minutes = 0;
            for (int i = 0; i < MAX_PLACES; i++) {
                int open = hunt.openAfter(visited, state.easedPlaces());
                if (open == 0) {
                    break;
                }
                int p = draw(open);
                minutes += state.minutesBetween(here, p);
                visited |= 1 << p;
                here = p;
            }
            return hunt.hasChest(visited) ? minutes : NONE;
        }

        private int draw(int open) {
            number = number * 6364136223846793005L + 1442695040888963407L;
            int choices = Integer.bitCount(open);
            int behind = choices == 0 ? 0 : (int) (number >>> 33) % choices;
            int rest = open;
            for (int i = 0; i < behind; i++) {
                rest &= rest - 1;
            }
            return smallestOf(rest);
        }
    }
}
