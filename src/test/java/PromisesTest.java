/** For each promise of the document: ordinary calls, the edges it names, and wrong arguments. */
public final class PromisesTest {
    private static final int NONE = -9;
    /** Place b may be visited at any time, but place a closes place c; d is the chest. */
    private static final String CLOSING = "H/11*/30a+!a/52!a.b/99b.2[a,c,!a]";
    private static final String FREE = "H/00*/00*/00*/00*";

    public static void main(String[] args) {
        newObject();
        append();
        clearText();
        errorPositionOfPlaces();
        errorPositionOfConditions();
        errorPositionOfDeepTexts();
        readingStartsAnew();
        load();
        loadForgets();
        about();
        place();
        holds();
        holdsByCount();
        holdsByCountOfFew();
        holdsWithTenPlaces();
        team();
        trail();
        open();
        addTeam();
        go();
        goTakesMinutes();
        hint();
        giveUp();
        move();
        ease();
        undo();
        undoForgetsTheOldest();
        undoOfEachAction();
        failedCallsChangeNothing();
        shortest();
        quickest();
        orders();
        safe();
        needed();
        deadEnds();
        easeBy();
        runScript();
        runScriptCommands();
        runScriptRefuses();
        simulate();
        save();
        restore();
        Check.end("PromisesTest");
    }

    // Promise 1
    private static void newObject() {
        ChestLetters x = new ChestLetters();
        Check.is("places", x.about(0), 2);
        Check.is("teams", x.about(1), 0);
        for (int p = 0; p < 2; p++) {
            Check.is("x of " + p, x.place(p, 0), 0);
            Check.is("y of " + p, x.place(p, 1), 0);
        }
        Check.is("0 holds", x.holds(0, 0), true);
        Check.is("1 holds without 0", x.holds(1, 0), false);
        Check.is("1 holds with 0", x.holds(1, 1), true);
        Check.is("the text is empty", x.clearText(), 0);
        Check.fails("undo of a new object", Check.STATE, x::undo);
        Check.fails("restore(0) of a new object", Check.STATE, () -> x.restore(0));
        Check.fails("restore(1) of a new object", Check.STATE, () -> x.restore(1));
    }

    // Promise 2
    private static void append() {
        ChestLetters x = new ChestLetters();
        Check.fails("append(-1)", Check.ARGUMENT, () -> x.append(-1));
        Check.fails("append(256)", Check.ARGUMENT, () -> x.append(256));
        Check.is("append(0)", x.append(0), 1);
        Check.is("append(255)", x.append(255), 2);
        for (int i = 3; i <= 120; i++) {
            Check.is("append", x.append('H'), i);
        }
        Check.fails("append to a full text", Check.STATE, () -> x.append('H'));
        Check.fails("append(256) to a full text", Check.ARGUMENT, () -> x.append(256));
        Check.fails("append(-1) to a full text", Check.ARGUMENT, () -> x.append(-1));
        Check.is("the length stays", x.clearText(), 120);
        Check.is("append behind clearText", x.append('H'), 1);
    }

    // Promise 3
    private static void clearText() {
        ChestLetters x = Check.write(new ChestLetters(), FREE);
        Check.is("clearText", x.clearText(), FREE.length());
        Check.is("clearText of an empty text", x.clearText(), 0);
        Check.is("errorPosition of an empty text", x.errorPosition(), 0);
    }

    // Promise 4
    private static void error(String text, int due) {
        ChestLetters x = Check.write(new ChestLetters(), text);
        Check.is("errorPosition of " + text, x.errorPosition(), due);
        Check.is("errorPosition keeps the text", x.clearText(), text.length());
        Check.is("errorPosition loads nothing", x.about(0), 2);
    }

    private static void errorPositionOfPlaces() {
        error("", 0);
        error("h", 0);
        error("H", 1);
        error("HH", 1);
        error("H/", 2);
        error("H/a", 2);
        error("H/0", 3);
        error("H/0/", 3);
        error("H/00", 4);
        error("H/00*", 5);
        error("H/00*/", 6);
        error("H/00*/99*", NONE);
        error("H/00*/99*/", 10);
        error("H/00* /99*", 5);
        error("H/000*", 4);
        error("H/00*/00**", 9);
        error("H/:0*", 2);
        error("H//0*", 2);
        String nine = "H/00*/00*/00*/00*/00*/00*/00*/00*/00*";
        error(nine, NONE);
        error(nine + "/00*", NONE);
        error(nine + "/00*/00*", 41);
        error(nine + "/00*/", 41);
        error(nine + "/00i", NONE);
        error(nine + "/00j", 40);
    }

    private static void errorPositionOfConditions() {
        error("H/00a/00*", 4);
        error("H/00*/00a", NONE);
        error("H/00*/00b", 8);
        error("H/00*/00A", 8);
        error("H/00!*/00!!a", NONE);
        error("H/00!/", 5);
        error("H/00*./", 6);
        error("H/00*+/", 6);
        error("H/00+", 4);
        error("H/00()", 5);
        error("H/00(*/00*", 6);
        error("H/00(*)/00(a)", NONE);
        error("H/00*)", 5);
        error("H/00*,*", 5);
        error("H/00(*,*)", 6);
        error("H/00(*]", 6);
        error("H/000[*]", 4);
        error("H/005[*]", 4);
        error("H/001*", 5);
        error("H/001(", 5);
        error("H/001[]", 6);
        error("H/001[*)", 7);
        error("H/001[*,]", 8);
        error("H/001[*", 7);
        error("H/001[*/", 7);
        error("H/00[*]", 4);
        error("H/001[*]/004[a+*.!a,(a),2[a,a]].a", NONE);
        error("H/001[*]2[*]", 8);
        error("H/00!1[*]/00*", NONE);
        error("H/001[(*,*)]", 8);
        error("H/001[(*),*]/00*", NONE);
        error("H/00*\u00ff", 5);
        error("H/00\u0000", 4);
    }

    private static void errorPositionOfDeepTexts() {
        error("H/00" + "(".repeat(116), 120);
        error("H/00" + "!".repeat(116), 120);
        error("H/00" + "1[".repeat(58), 120);
        error("H/00" + "(".repeat(55) + "*" + ")".repeat(55) + "/00*", NONE);
        error("H/00" + "(".repeat(55) + "*" + ")".repeat(56), 4 + 55 + 1 + 55);
        ChestLetters x = Check.hunt("H/00*/00" + "!".repeat(111) + "a");
        Check.is("111 times not", x.holds(1, 0), true);
        ChestLetters y = Check.hunt("H/00*/00" + "1[".repeat(37) + "a" + "]".repeat(37));
        Check.is("37 times 1[", y.holds(1, 1), true);
        Check.is("37 times 1[, without a", y.holds(1, 0), false);
        ChestLetters z = Check.hunt("H/00*/00*/00" + "a+b.(".repeat(17) + "a" + ")".repeat(17));
        Check.is("parentheses behind parts", z.holds(2, 2), false);
        Check.is("parentheses behind parts, with a", z.holds(2, 1), true);
    }

    private static void readingStartsAnew() {
        String[] brokenOff = {
            "H/00!", "H/00*.", "H/00*+", "H/00(*+", "H/00(*.", "H/00(!", "H/001[*,", "H/004[!",
            "H/00*/00*/00*", "H/00*/00(a+b.", "H/0"
        };
        for (String text : brokenOff) {
            loadBehind(text, "a", new boolean[] {false, true, false, true});
            loadBehind(text, "b.(a)", new boolean[] {false, false, false, true});
            loadBehind(text, "b+(a.b)", new boolean[] {false, false, true, true});
            loadBehind(text, "b.1[a]", new boolean[] {false, false, false, true});
            loadBehind(text, "2[a,b,a]", new boolean[] {false, true, false, true});
        }
    }

    private static void loadBehind(String text, String condition, boolean[] due) {
        ChestLetters x = Check.write(new ChestLetters(), text);
        x.errorPosition();
        Check.write(x, "H/00*/00*/00" + condition + "/00c");
        Check.is("load behind " + text, x.load(), 4);
        for (int set = 0; set < 4; set++) {
            Check.is("place 0 behind " + text, x.holds(0, set), true);
            Check.is(condition + " behind " + text, x.holds(2, set), due[set]);
        }
    }

    // Promise 5
    private static void load() {
        ChestLetters x = Check.write(new ChestLetters(), CLOSING);
        Check.is("load", x.load(), 4);
        Check.is("places", x.about(0), 4);
        int[] xs = {1, 3, 5, 9};
        int[] ys = {1, 0, 2, 9};
        for (int p = 0; p < 4; p++) {
            Check.is("x of " + p, x.place(p, 0), xs[p]);
            Check.is("y of " + p, x.place(p, 1), ys[p]);
        }
        Check.is("load keeps the text", x.clearText(), CLOSING.length());
        Check.is("the hunt stays without the text", x.about(0), 4);
        Check.fails("load of an empty text", Check.STATE, x::load);
        Check.write(x, "H/00*");
        Check.fails("load of one place", Check.STATE, x::load);
        Check.is("a load that fails keeps the hunt", x.about(0), 4);
        Check.is("and its conditions", x.place(2, 3), 2);
        Check.is("and its coordinates", x.place(0, 0), 1);
        Check.write(x, "H/12*/34a");
        Check.is("load of fewer places", x.load(), 2);
        Check.fails("a place of the hunt before", Check.INDEX, () -> x.place(2, 0));
    }

    private static void loadForgets() {
        ChestLetters x = Check.walked(FREE, 0, 3);
        x.ease(3);
        x.save(0);
        x.save(1);
        Check.is("load again", x.load(), 4);
        Check.is("teams behind load", x.about(1), 0);
        Check.fails("undo behind load", Check.STATE, x::undo);
        Check.fails("restore(0) behind load", Check.STATE, () -> x.restore(0));
        Check.fails("restore(1) behind load", Check.STATE, () -> x.restore(1));
        ChestLetters y = Check.hunt("H/12*/34a");
        y.ease(1);
        y.move(0, 9, 9);
        y.addTeam();
        y.clearText();
        Check.fails("load that fails", Check.STATE, y::load);
        Check.is("remembered behind a load that failed", y.undo(), 2);
        Check.write(y, "H/12*/34a").load();
        Check.is("eased behind load", y.holds(1, 0), false);
        Check.is("moved behind load", y.place(0, 0), 1);
    }

    // Promise 6
    private static void about() {
        ChestLetters x = Check.hunt("H/12*/34*/99a");
        int[] none = {3, 0, 0, 0, 0, 0};
        for (int what = 0; what < 6; what++) {
            Check.is("about(" + what + ") without teams", x.about(what), none[what]);
        }
        x.addTeam();
        x.addTeam();
        x.addTeam();
        x.hint(0);
        x.hint(0);
        x.hint(1);
        x.go(0, 0); // 4 minutes
        x.go(1, 0);
        x.go(1, 2); // 4 + 16 minutes
        x.go(2, 0);
        x.go(2, 1); // 4 + 5 minutes
        Check.is("greatest score", x.about(3), 200 - 20 - 10);
        x.go(2, 2); // 4 + 5 + 12 minutes
        int[] due = {3, 3, 2, 200 - 21, 3, 3};
        for (int what = 0; what < 6; what++) {
            Check.is("about(" + what + ")", x.about(what), due[what]);
        }
        ChestLetters y = Check.walked("H/12*/34*/99a", 0, 2);
        Check.is("greatest score of the only team", y.about(3), 200 - 20);
        Check.is("its places", y.about(4), 2);
        Check.fails("about(-1)", Check.ARGUMENT, () -> x.about(-1));
        Check.fails("about(6)", Check.ARGUMENT, () -> x.about(6));
    }

    // Promise 7
    private static void place() {
        ChestLetters x = Check.hunt("H/12*/34*/56a.!b/781[a,b,c]");
        Check.is("x", x.place(2, 0), 5);
        Check.is("y", x.place(2, 1), 6);
        Check.is("teams at a place", x.place(0, 2), 0);
        x.addTeam();
        x.addTeam();
        x.go(0, 0);
        x.go(1, 0);
        x.go(1, 1);
        Check.is("teams at place 0", x.place(0, 2), 2);
        Check.is("teams at place 1", x.place(1, 2), 1);
        Check.is("teams at place 2", x.place(2, 2), 0);
        Check.is("sets for *", x.place(0, 3), 8);
        Check.is("sets for a.!b, with and without d", x.place(2, 3), 2);
        Check.is("sets for 1[a,b,c]", x.place(3, 3), 7);
        Check.fails("place(-1, 0)", Check.INDEX, () -> x.place(-1, 0));
        Check.fails("place(4, 0)", Check.INDEX, () -> x.place(4, 0));
        Check.fails("place(0, -1)", Check.ARGUMENT, () -> x.place(0, -1));
        Check.fails("place(0, 4)", Check.ARGUMENT, () -> x.place(0, 4));
        Check.fails("place(4, 4)", Check.INDEX, () -> x.place(4, 4));
    }

    // Promise 8
    private static void holds() {
        ChestLetters x = Check.hunt("H/00*/00a+!a/00!a.b/00a.b+c/00!(a+b).!!c/00(a+b).c");
        boolean[][] due = {
            {true, true, true, true, true, true, true, true},
            {true, true, true, true, true, true, true, true},
            {false, false, true, false, false, false, true, false},
            {false, false, false, true, true, true, true, true},
            {false, false, false, false, true, false, false, false},
            {false, false, false, false, false, true, true, true}
        };
        for (int p = 0; p < 6; p++) {
            for (int set = 0; set < 8; set++) {
                Check.is("holds(" + p + ", " + set + ")", x.holds(p, set), due[p][set]);
                Check.is("holds with the place itself", x.holds(p, set | 1 << p), due[p][(set | 1 << p) & 7]);
                Check.is("holds with the chest", x.holds(p, set | 32), due[p][set]);
            }
        }
        Check.fails("holds(6, 0)", Check.INDEX, () -> x.holds(6, 0));
        Check.fails("holds(-1, 0)", Check.INDEX, () -> x.holds(-1, 0));
        Check.fails("holds(0, -1)", Check.ARGUMENT, () -> x.holds(0, -1));
        Check.fails("holds(0, 64)", Check.ARGUMENT, () -> x.holds(0, 64));
        Check.fails("holds(0, MIN)", Check.ARGUMENT, () -> x.holds(0, Integer.MIN_VALUE));
        Check.fails("holds(0, MAX)", Check.ARGUMENT, () -> x.holds(0, Integer.MAX_VALUE));
        Check.fails("holds(6, 64)", Check.INDEX, () -> x.holds(6, 64));
    }

    private static void holdsByCount() {
        for (int n = 1; n <= 4; n++) {
            ChestLetters x = Check.hunt("H/00*/00*/00*/00*/00*/00" + n + "[a,b,c,d,e]/00!" + n + "[a,!b,c.d]");
            for (int set = 0; set < 32; set++) {
                Check.is(n + "[a,b,c,d,e]", x.holds(5, set), Integer.bitCount(set) >= n);
                int count = (set & 1) + (~set >> 1 & 1) + ((set & 12) == 12 ? 1 : 0);
                Check.is("!" + n + "[a,!b,c.d]", x.holds(6, set), count < n);
            }
        }
    }

    private static void holdsByCountOfFew() {
        for (int n = 2; n <= 4; n++) {
            ChestLetters x = Check.hunt("H/00*/00" + n + "[a]/00" + n + "[*]/00!" + n + "[a]");
            Check.is("fewer conditions than " + n, x.holds(1, 1), false);
            Check.is("fewer conditions than " + n, x.holds(2, 3), false);
            Check.is("not fewer conditions than " + n, x.holds(3, 1), true);
        }
        ChestLetters y = Check.hunt("H/00*/00*/00*/002[a.b+c,(!a),!b]");
        for (int set = 0; set < 8; set++) {
            int count = ((set & 3) == 3 || set > 3 ? 1 : 0) + (~set & 1) + (~set >> 1 & 1);
            Check.is("2[a.b+c,(!a),!b]", y.holds(3, set), count >= 2);
        }
    }

    private static void holdsWithTenPlaces() {
        ChestLetters x = Check.hunt("H/00*/00*/00*/00*/00*/00*/00*/00*/00h/00i.!g+f");
        for (int set = 0; set < 1024; set++) {
            boolean f = (set & 32) != 0;
            boolean g = (set & 64) != 0;
            boolean h = (set & 128) != 0;
            boolean i = (set & 256) != 0;
            if (x.holds(8, set) != h || x.holds(9, set) != (i && !g || f)) {
                Check.is("holds with ten places, " + set, 0, 1);
            }
        }
        Check.is("sets of h", x.place(8, 3), 256);
        Check.is("sets of i.!g+f", x.place(9, 3), 256 + 64);
        Check.fails("holds(9, 1024)", Check.ARGUMENT, () -> x.holds(9, 1024));
    }

    // Promise 9
    private static void team() {
        ChestLetters x = Check.hunt("H/12*/34*/99a");
        x.addTeam();
        int[] before = {0, 0, 0, 0, 0, NONE};
        for (int what = 0; what < 6; what++) {
            Check.is("team(0, " + what + ") in the camp", x.team(0, what), before[what]);
        }
        x.hint(0);
        x.go(0, 1);
        x.go(0, 0);
        int[] due = {3, 2, 8 + 5, 1, 0, 0};
        for (int what = 0; what < 6; what++) {
            Check.is("team(0, " + what + ")", x.team(0, what), due[what]);
        }
        x.go(0, 2);
        Check.is("score", x.team(0, 4), 200 - (8 + 5 + 16) - 10);
        x.addTeam();
        for (int i = 0; i < 19; i++) {
            x.hint(1);
        }
        x.go(1, 0);
        x.go(1, 2);
        Check.is("score of 20 minutes and 19 hints", x.team(1, 4), 0);
        Check.is("hints", x.team(1, 3), 19);
        Check.fails("team(-1, 0)", Check.INDEX, () -> x.team(-1, 0));
        Check.fails("team(2, 0)", Check.INDEX, () -> x.team(2, 0));
        Check.fails("team(0, -1)", Check.ARGUMENT, () -> x.team(0, -1));
        Check.fails("team(0, 6)", Check.ARGUMENT, () -> x.team(0, 6));
        Check.fails("team(2, 6)", Check.INDEX, () -> x.team(2, 6));
    }

    // Promise 10
    private static void trail() {
        ChestLetters x = Check.walked("H/12*/34*/99a", 1, 0, 2);
        x.addTeam();
        x.go(1, 0);
        int[] due = {1, 0, 2, NONE};
        for (int i = 0; i < 4; i++) {
            Check.is("trail(0, " + i + ")", x.trail(0, i), due[i]);
        }
        Check.is("trail(1, 0)", x.trail(1, 0), 0);
        Check.is("trail(1, 1)", x.trail(1, 1), NONE);
        Check.is("trail(0, MAX)", x.trail(0, Integer.MAX_VALUE), NONE);
        Check.fails("trail(0, -1)", Check.ARGUMENT, () -> x.trail(0, -1));
        Check.fails("trail(2, 0)", Check.INDEX, () -> x.trail(2, 0));
        Check.fails("trail(-1, 0)", Check.INDEX, () -> x.trail(-1, 0));
        Check.fails("trail(2, -1)", Check.INDEX, () -> x.trail(2, -1));
        ChestLetters y = Check.walked("H/00*/00*/00*/00*/00*/00*/00*/00*/00*/00*", 8, 7, 6, 5, 4, 3, 2, 1, 0, 9);
        Check.is("the tenth visit", y.trail(0, 9), 9);
        Check.is("an eleventh visit", y.trail(0, 10), NONE);
    }

    // Promise 11
    private static void open() {
        ChestLetters x = Check.walked(CLOSING);
        Check.is("open in the camp", x.open(0), 1 | 2);
        x.go(0, 1);
        Check.is("open behind b", x.open(0), 1 | 4);
        x.go(0, 2);
        Check.is("open behind b, c", x.open(0), 1 | 8);
        x.go(0, 3);
        Check.is("open behind the chest", x.open(0), 0);
        Check.fails("open(1)", Check.INDEX, () -> x.open(1));
        Check.fails("open(-1)", Check.INDEX, () -> x.open(-1));
    }

    // Promise 12
    private static void addTeam() {
        ChestLetters x = new ChestLetters();
        for (int t = 0; t < 4; t++) {
            Check.is("addTeam", x.addTeam(), t);
        }
        Check.fails("a fifth team", Check.STATE, x::addTeam);
        Check.is("teams", x.about(1), 4);
        x.go(3, 0);
        x.hint(3);
        x.giveUp(3);
        Check.is("addTeam behind giveUp", x.addTeam(), 3);
        for (int what = 0; what < 5; what++) {
            Check.is("the new team is in the camp", x.team(3, what), 0);
        }
        Check.is("and was nowhere", x.trail(3, 0), NONE);
    }

    // Promise 13
    private static void go() {
        ChestLetters x = Check.walked(CLOSING);
        Check.fails("a place whose condition does not hold", Check.STATE, () -> x.go(0, 2));
        Check.is("go", x.go(0, 1), 4);
        Check.fails("a place again", Check.STATE, () -> x.go(0, 1));
        Check.is("go", x.go(0, 2), 4 + 5);
        Check.is("go to the chest", x.go(0, 3), 4 + 5 + 12);
        Check.fails("a place behind the chest", Check.STATE, () -> x.go(0, 0));
        Check.fails("the chest again", Check.STATE, () -> x.go(0, 3));
        Check.fails("go(0, 4)", Check.INDEX, () -> x.go(0, 4));
        Check.fails("go(0, -1)", Check.INDEX, () -> x.go(0, -1));
        Check.fails("go(1, 0)", Check.INDEX, () -> x.go(1, 0));
        Check.fails("go(-1, 0)", Check.INDEX, () -> x.go(-1, 0));
        ChestLetters y = Check.walked(CLOSING, 1, 0);
        Check.fails("a place that another one closed", Check.STATE, () -> y.go(0, 2));
        Check.is("a team's places", y.team(0, 0), 3);
    }

    private static void goTakesMinutes() {
        ChestLetters x = Check.walked("H/90*/09*/55*");
        Check.is("from the camp", x.go(0, 0), 10);
        Check.is("both coordinates", x.go(0, 1), 10 + 19);
        x.move(1, 5, 4);
        Check.is("minutes stay behind move", x.team(0, 2), 29);
        Check.is("from where the place is now", x.go(0, 2), 29 + 2);
        ChestLetters y = Check.walked("H/00*/00*");
        Check.is("no way takes 1 minute", y.go(0, 0), 1);
    }

    // Promise 14
    private static void hint() {
        ChestLetters x = Check.walked(CLOSING);
        Check.is("hint", x.hint(0), 1);
        Check.is("hints", x.team(0, 3), 1);
        x.go(0, 1);
        Check.is("hint", x.hint(0), 2);
        x.go(0, 0);
        Check.fails("hint in a dead end", Check.STATE, () -> x.hint(0));
        Check.is("hints stay", x.team(0, 3), 2);
        x.undo();
        x.go(0, 2);
        x.go(0, 3);
        Check.fails("hint behind the chest", Check.STATE, () -> x.hint(0));
        Check.fails("hint(1)", Check.INDEX, () -> x.hint(1));
        Check.fails("hint(-1)", Check.INDEX, () -> x.hint(-1));
        ChestLetters y = Check.walked("H/00*/00a", 0);
        Check.is("the chest can be hinted at", y.hint(0), 1);
    }

    // Promise 15
    private static void giveUp() {
        ChestLetters x = Check.hunt(FREE);
        for (int t = 0; t < 4; t++) {
            x.addTeam();
            x.go(t, t);
            if (t < 3) {
                for (int i = 0; i <= t; i++) {
                    x.hint(t);
                }
            }
        }
        x.go(2, 0);
        Check.is("giveUp(1)", x.giveUp(1), 3);
        Check.is("team 0 stays", x.team(0, 5), 0);
        Check.is("team 2 is team 1", x.trail(1, 0), 2);
        Check.is("with its trail", x.trail(1, 1), 0);
        Check.is("its places", x.team(1, 0), 5);
        Check.is("its visits", x.team(1, 1), 2);
        Check.is("its minutes", x.team(1, 2), 2);
        Check.is("its hints", x.team(1, 3), 3);
        Check.is("team 3 is team 2", x.team(2, 5), 3);
        Check.is("its score", x.team(2, 4), 199);
        Check.fails("giveUp(3)", Check.INDEX, () -> x.giveUp(3));
        Check.fails("giveUp(-1)", Check.INDEX, () -> x.giveUp(-1));
        Check.is("giveUp of the last", x.giveUp(2), 2);
        Check.is("giveUp(0)", x.giveUp(0), 1);
        Check.is("giveUp(0)", x.giveUp(0), 0);
        Check.fails("giveUp without teams", Check.INDEX, () -> x.giveUp(0));
    }

    // Promise 16
    private static void move() {
        ChestLetters x = Check.hunt("H/12*/34a");
        Check.is("move", x.move(1, 0, 9), 34);
        Check.is("move", x.move(1, 9, 0), 9);
        Check.is("x", x.place(1, 0), 9);
        Check.is("y", x.place(1, 1), 0);
        Check.is("another place stays", x.place(0, 0), 1);
        Check.fails("x of 10", Check.ARGUMENT, () -> x.move(1, 10, 0));
        Check.fails("y of 10", Check.ARGUMENT, () -> x.move(1, 0, 10));
        Check.fails("x of -1", Check.ARGUMENT, () -> x.move(1, -1, 0));
        Check.fails("y of -1", Check.ARGUMENT, () -> x.move(1, 0, -1));
        Check.fails("place 2", Check.INDEX, () -> x.move(2, 0, 0));
        Check.fails("place -1", Check.INDEX, () -> x.move(-1, 0, 0));
        Check.fails("place 2, x of 10", Check.INDEX, () -> x.move(2, 10, 0));
        Check.is("nothing was moved", x.place(1, 0), 9);
    }

    // Promise 17
    private static void ease() {
        ChestLetters x = Check.hunt("H/00*/00*/00a.b/00c.!c");
        Check.is("ease a.b", x.ease(2), 2);
        Check.is("holds", x.holds(2, 0), true);
        Check.is("ease again", x.ease(2), 8);
        Check.is("another place stays", x.holds(3, 4), false);
        Check.is("ease what never holds", x.ease(3), 0);
        Check.is("sets", x.place(3, 3), 8);
        Check.fails("ease(4)", Check.INDEX, () -> x.ease(4));
        Check.fails("ease(-1)", Check.INDEX, () -> x.ease(-1));
        x.addTeam();
        Check.is("open", x.open(0), 15);
    }

    // Promise 18
    private static void undo() {
        ChestLetters x = Check.walked(FREE, 0);
        Check.is("undo", x.undo(), 1);
        Check.is("the visit is taken back", x.team(0, 0), 0);
        Check.is("undo", x.undo(), 0);
        Check.is("the team is taken back", x.about(1), 0);
        Check.fails("undo without states", Check.STATE, x::undo);
        x.ease(0);
        x.ease(0);
        Check.is("an action that changes nothing is one", x.undo(), 1);
        x.move(0, 5, 5);
        Check.is("undo", x.undo(), 1);
        Check.is("x", x.place(0, 0), 0);
        x.clearText();
        x.append('H');
        Check.is("the text is no state", x.undo(), 0);
        Check.is("the text stays", x.clearText(), 1);
    }

    private static void undoForgetsTheOldest() {
        ChestLetters x = Check.hunt(FREE);
        for (int i = 0; i < 16; i++) {
            x.move(0, i % 10, i / 10);
        }
        for (int left = 13; left >= 0; left--) {
            Check.is("undo of many", x.undo(), left);
            int due = left + 1;
            Check.is("x behind undo", x.place(0, 0), due % 10);
            Check.is("y behind undo", x.place(0, 1), due / 10);
        }
        Check.fails("a state that was forgotten", Check.STATE, x::undo);
        x.move(0, 7, 7);
        Check.is("undo behind an empty memory", x.undo(), 0);
        Check.is("x", x.place(0, 0), 1);
    }

    private static void undoOfEachAction() {
        ChestLetters x = Check.hunt(CLOSING);
        x.addTeam();
        x.addTeam();
        x.hint(0);
        x.go(0, 1);
        x.ease(2);
        x.giveUp(1);
        Check.is("undo giveUp", x.undo(), 5);
        Check.is("teams", x.about(1), 2);
        Check.is("undo ease", x.undo(), 4);
        Check.is("the condition", x.place(2, 3), 2);
        Check.is("undo go", x.undo(), 3);
        Check.is("minutes", x.team(0, 2), 0);
        Check.is("visits", x.team(0, 1), 0);
        Check.is("trail", x.trail(0, 0), NONE);
        Check.is("undo hint", x.undo(), 2);
        Check.is("hints", x.team(0, 3), 0);
        x.save(0);
        Check.is("save is no action", x.undo(), 1);
        Check.is("the save slot stays behind undo", x.restore(0), 2);
    }

    private static void failedCallsChangeNothing() {
        ChestLetters x = Check.walked(CLOSING, 1, 0);
        Check.fails("go", Check.STATE, () -> x.go(0, 2));
        Check.fails("go", Check.INDEX, () -> x.go(0, 7));
        Check.fails("hint", Check.STATE, () -> x.hint(0));
        Check.fails("giveUp", Check.INDEX, () -> x.giveUp(1));
        Check.fails("move", Check.ARGUMENT, () -> x.move(0, 10, 0));
        Check.fails("ease", Check.INDEX, () -> x.ease(4));
        Check.fails("restore", Check.STATE, () -> x.restore(0));
        Check.is("three states are remembered", x.undo(), 2);
        x.addTeam();
        x.addTeam();
        x.addTeam();
        Check.fails("addTeam", Check.STATE, x::addTeam);
        Check.is("five states are remembered", x.undo(), 4);
    }

    // Promise 19
    private static void shortest() {
        ChestLetters x = Check.walked("H/00*/00*/00*/00a.b+c");
        Check.is("fewest visits", x.shortest(0, 0), 2);
        Check.is("first place", x.shortest(0, 1), 2);
        x.go(0, 0);
        Check.is("fewest visits", x.shortest(0, 0), 2);
        Check.is("the smallest of two first places", x.shortest(0, 1), 1);
        x.go(0, 2);
        Check.is("the chest at once", x.shortest(0, 0), 1);
        Check.is("the chest first", x.shortest(0, 1), 3);
        x.go(0, 3);
        Check.is("behind the chest", x.shortest(0, 0), 0);
        Check.is("behind the chest", x.shortest(0, 1), NONE);
        Check.fails("shortest(1, 0)", Check.INDEX, () -> x.shortest(1, 0));
        Check.fails("shortest(0, 2)", Check.ARGUMENT, () -> x.shortest(0, 2));
        Check.fails("shortest(0, -1)", Check.ARGUMENT, () -> x.shortest(0, -1));
        Check.fails("shortest(1, 2)", Check.INDEX, () -> x.shortest(1, 2));
        Check.is("the only way", Check.walked(CLOSING).shortest(0, 0), 3);
        Check.is("its first place", Check.walked(CLOSING).shortest(0, 1), 1);
        Check.is("place 0 first", Check.walked("H/00*/00*/00a+b").shortest(0, 1), 0);
        ChestLetters y = Check.walked(CLOSING, 0);
        Check.is("no way", y.shortest(0, 0), NONE);
        Check.is("no way", y.shortest(0, 1), NONE);
    }

    // Promise 20
    private static void quickest() {
        // By c: 20 minutes in 2 visits; by a and b: 21 minutes in 3.
        ChestLetters x = Check.walked("H/33*/66*/90*/99a.b+c");
        Check.is("fewest minutes", x.quickest(0, 0), 20);
        Check.is("first place", x.quickest(0, 1), 2);
        x.move(2, 9, 9);
        Check.is("as far", x.quickest(0, 0), 20);
        x.move(2, 0, 0);
        x.ease(3);
        Check.is("the chest at once", x.quickest(0, 0), 19);
        Check.is("the chest first", x.quickest(0, 1), 3);
        x.undo();
        x.go(0, 0);
        Check.is("from the place where the team is", x.quickest(0, 0), 14);
        Check.is("first place", x.quickest(0, 1), 1);
        x.move(0, 0, 0);
        Check.is("where that is now: by a third place as quick", x.quickest(0, 0), 20);
        Check.is("the smallest of two", x.quickest(0, 1), 1);
        x.go(0, 2);
        x.go(0, 3);
        Check.is("behind the chest", x.quickest(0, 0), 0);
        Check.is("behind the chest", x.quickest(0, 1), NONE);
        Check.fails("quickest(1, 0)", Check.INDEX, () -> x.quickest(1, 0));
        Check.fails("quickest(0, 2)", Check.ARGUMENT, () -> x.quickest(0, 2));
        Check.fails("quickest(0, -1)", Check.ARGUMENT, () -> x.quickest(0, -1));
        Check.fails("quickest(-1, -1)", Check.INDEX, () -> x.quickest(-1, -1));
        ChestLetters y = Check.walked(CLOSING, 0);
        Check.is("no way", y.quickest(0, 0), NONE);
        Check.is("no way", y.quickest(0, 1), NONE);
        Check.is("the first place, asked for first", Check.walked(CLOSING).quickest(0, 1), 1);
        Check.is("the first place of two", Check.walked("H/00*/09*/00*/99b.c").quickest(0, 1), 2);
        // More visits may take fewer minutes: a, b and the chest lie together, c is far away.
        ChestLetters z = Check.walked("H/00*/01*/99*/02a.b+c");
        Check.is("quick in more visits", z.quickest(0, 0), 5);
        Check.is("quick in more visits", z.quickest(0, 1), 0);
        Check.is("short in fewer", z.shortest(0, 1), 2);
    }

    // Promise 21
    private static void orders() {
        ChestLetters x = Check.walked(FREE);
        Check.is("3 places and the chest", x.orders(0), 1 + 3 + 6 + 6);
        x.go(0, 1);
        Check.is("2 places and the chest", x.orders(0), 1 + 2 + 2);
        x.go(0, 3);
        Check.is("behind the chest", x.orders(0), 1);
        Check.fails("orders(1)", Check.INDEX, () -> x.orders(1));
        Check.fails("orders(-1)", Check.INDEX, () -> x.orders(-1));
        Check.is("no way", Check.walked(CLOSING, 0).orders(0), 0);
        Check.is("behind b: c and d, or c, a and d", Check.walked(CLOSING, 1).orders(0), 2);
        Check.is("ten free places", Check.walked("H/00*/00*/00*/00*/00*/00*/00*/00*/00*/00*").orders(0), 986410);
    }

    // Promise 22
    private static void safe() {
        ChestLetters x = Check.walked(CLOSING);
        Check.is("safe", x.safe(0), 2);
        x.go(0, 1);
        Check.is("safe", x.safe(0), 4);
        x.go(0, 2);
        Check.is("safe", x.safe(0), 1 | 8);
        x.go(0, 0);
        Check.is("safe", x.safe(0), 8);
        x.go(0, 3);
        Check.is("behind the chest", x.safe(0), 0);
        Check.is("in a dead end", Check.walked(CLOSING, 0).safe(0), 0);
        Check.fails("safe(1)", Check.INDEX, () -> x.safe(1));
        Check.fails("safe(-1)", Check.INDEX, () -> x.safe(-1));
    }

    // Promise 23
    private static void needed() {
        ChestLetters x = Check.walked("H/00*/00*/00*/00a.(b+c)");
        Check.is("needed", x.needed(0), 1 | 8);
        x.go(0, 1);
        Check.is("needed", x.needed(0), 1 | 8);
        x.go(0, 0);
        Check.is("needed", x.needed(0), 8);
        x.go(0, 3);
        Check.is("behind the chest", x.needed(0), 0);
        Check.is("no way", Check.walked(CLOSING, 0).needed(0), NONE);
        Check.is("all", Check.walked(CLOSING).needed(0), 2 | 4 | 8);
        Check.fails("needed(1)", Check.INDEX, () -> x.needed(1));
        Check.fails("needed(-1)", Check.INDEX, () -> x.needed(-1));
    }

    // Promise 24
    private static void deadEnds() {
        ChestLetters x = Check.hunt(CLOSING);
        Check.is("a; a and b", x.deadEnds(), 2);
        x.ease(3);
        Check.is("none with an easy chest", x.deadEnds(), 0);
        Check.is("a new object", new ChestLetters().deadEnds(), 0);
        Check.is("all sets, the empty one too", Check.hunt("H/00*/00*/00!*").deadEnds(), 4);
        Check.is("sets that nobody comes to", Check.hunt("H/00*/00!*/00b").deadEnds(), 2);
        ChestLetters y = Check.walked(CLOSING, 1, 2, 3);
        Check.is("teams are no matter", y.deadEnds(), 2);
        Check.is("ten places", Check.hunt("H/00*/00*/00*/00*/00*/00*/00*/00*/00*/00!*").deadEnds(), 512);
        ChestLetters z = Check.hunt("H/00*/00*/00*/00!*");
        Check.is("eight sets", z.deadEnds(), 8);
        Check.write(z, "H/00*/00!*/00!*/00!*").load();
        Check.is("two sets in the hunt behind it", z.deadEnds(), 2);
    }

    // Promise 25
    private static void easeBy() {
        ChestLetters x = Check.hunt(CLOSING);
        Check.is("c", x.easeBy(), 2);
        Check.is("nothing was eased", x.deadEnds(), 2);
        x.ease(2);
        Check.is("no dead ends", x.easeBy(), NONE);
        Check.is("the chest", Check.hunt("H/00*/00*/00!a.!b").easeBy(), 2);
        Check.is("the smallest", Check.hunt("H/00!*/00a/00a").easeBy(), 0);
        Check.is("a new object", new ChestLetters().easeBy(), NONE);
        // Neither a nor b helps by itself, as the chest asks for both.
        Check.is("the last place", Check.hunt("H/00!*/00!*/00a.b").easeBy(), 2);
    }

    // Promise 26
    private static void script(ChestLetters x, int n, long commands, int due) {
        Check.is("runScript(" + n + ", " + commands + ")", x.runScript(n, commands), due);
    }

    private static void runScript() {
        ChestLetters x = Check.hunt(CLOSING);
        script(x, 4, 3000_1010_1020_1030L, NONE);
        script(x, 4, 3000_1010_1000_1020L, 3);
        script(x, 3, 3000_1010_1000L, NONE);
        script(x, 3, 3000L, 0);
        script(x, 1, 3000, NONE);
        script(x, 2, 3000, 0);
        script(x, 1, 0, 0);
        script(x, 4, 9999_9999_9999_9999L, 0);
        Check.is("a script changes nothing", x.about(1), 0);
        Check.fails("a script remembers nothing", Check.STATE, x::undo);
        Check.fails("n of 0", Check.ARGUMENT, () -> x.runScript(0, 0));
        Check.fails("n of 5", Check.ARGUMENT, () -> x.runScript(5, 0));
        Check.fails("n of -1", Check.ARGUMENT, () -> x.runScript(-1, 3000));
        Check.fails("a negative script", Check.ARGUMENT, () -> x.runScript(1, -1));
        Check.fails("the most negative script", Check.ARGUMENT, () -> x.runScript(4, Long.MIN_VALUE));
        for (int n = 1; n <= 4; n++) {
            int count = n;
            long past = (long) Math.pow(10, 4 * n);
            Check.fails("more than 4 * " + n + " digits", Check.ARGUMENT, () -> x.runScript(count, past));
            script(x, n, past - 1, 0);
        }
        Check.fails("the greatest script", Check.ARGUMENT, () -> x.runScript(4, Long.MAX_VALUE));
    }

    private static void runScriptCommands() {
        ChestLetters x = Check.walked(CLOSING, 1);
        script(x, 2, 1020_1030, NONE);
        script(x, 2, 1030_1020, 0);
        script(x, 1, 2000, NONE);
        script(x, 2, 1000_2000, 1);
        script(x, 4, 3000_3000_3000_3000L, 3);
        script(x, 2, 4000_9000, 1);
        script(x, 2, 3000_4100, NONE);
        script(x, 4, 3000_4000_9000_9010L, 3);
        script(x, 1, 5020, NONE);
        script(x, 1, 5000, 0);
        script(x, 1, 5010, 0);
        script(x, 2, 1020_5030, NONE);
        script(x, 1, 6004, NONE);
        script(x, 1, 6003, 0);
        script(x, 3, 7299_1020_6020L, NONE);
        script(x, 3, 7299_1020_6019L, 2);
        script(x, 2, 1020_6009, NONE);
        script(x, 2, 1020_6008, 1);
        script(x, 2, 8300_1030, NONE);
        script(x, 2, 8200_1030, 1);
        script(x, 2, 9000_9010, NONE);
        script(x, 1, 9020, 0);
        script(x, 2, 1020_9020, NONE);
        Check.is("the place stays", x.place(2, 0), 5);
        Check.is("the condition stays", x.place(3, 3), 2);
        Check.is("the team stays", x.team(0, 0), 2);
        Check.is("hints stay", x.team(0, 3), 0);
        Check.is("what is remembered stays", x.undo(), 1);
    }

    private static void runScriptRefuses() {
        ChestLetters x = Check.walked(CLOSING, 1);
        int[] failing = {
            // places and teams that do not exist
            1120, 1040, 2100, 4100, 5120, 5040, 5090, 6199, 7400, 8400, 9100, 1920, 7999, 8900,
            // another digit where a 0 is written
            1021, 2010, 2001, 3001, 3010, 3100, 4010, 4001, 5021, 8310, 8301, 9001, 9011,
            // no command
            1, 20, 300, 999, 0
        };
        for (int command : failing) {
            script(x, 1, command, 0);
        }
        script(x, 1, 7300, NONE);
        script(x, 1, 8300, NONE);
        script(x, 1, 6099, NONE);
    }

    // Promise 27
    private static void simulate() {
        ChestLetters x = new ChestLetters();
        Check.is("one way", x.simulate(0, 1), 100002);
        Check.is("one way, 50 teams", x.simulate(-1, 50), 50 * 100002);
        Check.is("no way", Check.hunt("H/00*/00!*").simulate(5, 50), 0);
        Check.is("all dead ends", Check.hunt("H/00!*/00!*").simulate(5, 50), 0);
        ChestLetters y = Check.hunt("H/12*/34*/56*/78a.!b");
        Check.is("some teams", y.simulate(77, 13), simulated(77, 13));
        Check.is("many teams", y.simulate(Long.MIN_VALUE, 50), simulated(Long.MIN_VALUE, 50));
        Check.fails("m of 0", Check.ARGUMENT, () -> y.simulate(1, 0));
        Check.fails("m of 51", Check.ARGUMENT, () -> y.simulate(1, 51));
        Check.fails("m of -1", Check.ARGUMENT, () -> y.simulate(1, -1));
        Check.is("nobody was added", y.about(1), 0);
        y.addTeam();
        y.go(0, 1);
        Check.is("teams are no matter", y.simulate(77, 13), simulated(77, 13));
        y.move(3, 0, 0);
        y.ease(3);
        int minutes = minutesToChestAtCamp(8);
        Check.is("where places are now, and with what was eased", y.simulate(8, 1), 100000 + minutes);
    }

    /** The same for this hunt alone: the chest opens behind a, as long as b was not visited. */
    private static int simulated(long seed, int m) {
        int[] sums = {3, 7, 11, 15};
        long x = seed;
        int came = 0;
        int minutes = 0;
        for (int i = 0; i < m; i++) {
            int set = 0;
            int at = 0;
            int spent = 0;
            while (set < 7) {
                int open = 7 & ~set | ((set & 3) == 1 ? 8 : 0);
                x = x * 6364136223846793005L + 1442695040888963407L;
                int k = (int) (x >>> 33) % Integer.bitCount(open);
                int p = 0;
                while ((open >> p & 1) == 0 || k-- > 0) {
                    p++;
                }
                spent += Math.abs(sums[p] - at) + 1;
                at = sums[p];
                set |= 1 << p;
            }
            if (set >= 8) {
                came++;
                minutes += spent;
            }
        }
        return 100000 * came + minutes;
    }

    /** A walk of one team when the chest lies at the camp and is open from the beginning. */
    private static int minutesToChestAtCamp(long seed) {
        int[] sums = {3, 7, 11, 0};
        long x = seed;
        int set = 0;
        int at = 0;
        int spent = 0;
        while (set < 8) {
            int open = 15 & ~set;
            x = x * 6364136223846793005L + 1442695040888963407L;
            int k = (int) (x >>> 33) % Integer.bitCount(open);
            int p = 0;
            while ((open >> p & 1) == 0 || k-- > 0) {
                p++;
            }
            spent += Math.abs(sums[p] - at) + 1;
            at = sums[p];
            set |= 1 << p;
        }
        return spent;
    }

    // Promise 28
    private static void save() {
        ChestLetters x = Check.walked(CLOSING, 1);
        Check.is("save(0)", x.save(0), 1);
        x.addTeam();
        Check.is("save(1)", x.save(1), 2);
        Check.fails("save(2)", Check.INDEX, () -> x.save(2));
        Check.fails("save(-1)", Check.INDEX, () -> x.save(-1));
        x.go(0, 2);
        Check.is("restore(0)", x.restore(0), 1);
        Check.is("as it was saved", x.team(0, 0), 2);
        Check.is("restore(1)", x.restore(1), 2);
        x.giveUp(0);
        Check.is("save over it", x.save(1), 1);
        Check.is("restore(1)", x.restore(1), 1);
        Check.is("the later one", x.team(0, 0), 0);
    }

    // Promise 29
    private static void restore() {
        ChestLetters x = Check.walked(CLOSING, 1);
        Check.fails("restore(2)", Check.INDEX, () -> x.restore(2));
        Check.fails("restore(-1)", Check.INDEX, () -> x.restore(-1));
        Check.fails("restore of an empty slot", Check.STATE, () -> x.restore(1));
        x.hint(0);
        x.move(3, 0, 1);
        x.save(0);
        Check.fails("the other slot is empty", Check.STATE, () -> x.restore(1));
        x.ease(3);
        x.move(3, 9, 9);
        x.go(0, 2);
        x.addTeam();
        for (int i = 0; i < 2; i++) {
            Check.is("restore(0)", x.restore(0), 1);
            Check.fails("restored: nothing is remembered", Check.STATE, x::undo);
            Check.is("condition", x.place(3, 3), 2);
            Check.is("y", x.place(3, 1), 1);
            Check.is("places", x.team(0, 0), 2);
            Check.is("minutes", x.team(0, 2), 4);
            Check.is("hints", x.team(0, 3), 1);
            Check.is("trail", x.trail(0, 0), 1);
            Check.is("trail", x.trail(0, 1), NONE);
            x.go(0, 0);
        }
        Check.is("restore is no action", x.undo(), 0);
    }
}
