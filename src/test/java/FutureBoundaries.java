import java.math.BigInteger;
import java.util.ArrayList;
import java.util.List;
import java.util.function.IntUnaryOperator;

/** The boundary cases of the promises 19 to 29: what would be, scripts, simulations, and save slots. */
final class FutureBoundaries extends Boundary {
    /** Nobody comes to the chest but by a and b, and then only by those. */
    private static final String BOTH = "H/00*/00*/00*/00a.b.!c";

    static void tellAll() {
        shortest();
        quickest();
        whatOfWays("Promise 19", "shortest");
        whatOfWays("Promise 20", "quickest");
        orders();
        safe();
        needed();
        deadEnds();
        easeBy();
        scripts();
        visitsInScripts();
        checksInScripts();
        changesInScripts();
        failingCommands();
        allCommands();
        scriptNumbers();
        simulatedTeams();
        simulatedNumbers();
        simulateRefuses();
        save();
        restore();
        restoreRefuses();
    }

    private static void shortest() {
        String part = "Promise 19";
        namesNoBoundary(part, "Tells the shortest way of a team to the chest.");
        told(part, "0: the fewest visits, the one of the chest included;");
        run("addTeam; shortest 0 0 = 2; go 0 0; shortest 0 0 = 1");
        run("hunt " + ZIGZAG + "; addTeam; shortest 0 0 = 10; " + goTo(0, 8)
                + "shortest 0 0 = 2; go 0 8; shortest 0 0 = 1");
        run("hunt " + TEN_FREE + "; addTeam; shortest 0 0 = 1; " + goTo(0, 9) + "shortest 0 0 = 1");
        told(part, "1: the first place of a way with so few visits, among several such places the smallest");
        run("hunt " + TEN_FREE + "; addTeam; shortest 0 1 = 9");
        run("hunt " + ZIGZAG + "; addTeam; shortest 0 1 = 0; " + goTo(0, 8) + "shortest 0 1 = 8; go 0 8; "
                + "shortest 0 1 = 9");
        run("hunt " + NINE_FREE + "/001[a,b,c,d,e,f,g,h,i]; addTeam; shortest 0 0 = 2; shortest 0 1 = 0");
        run("hunt " + NINE_FREE + "/00h+i; addTeam; shortest 0 0 = 2; shortest 0 1 = 7; move 7 9 9; shortest 0 1 = 7");
        run("hunt " + NINE_FREE + "/00i+h.g; addTeam; shortest 0 0 = 2; shortest 0 1 = 8");
        run("hunt H/00*/00*/00*/00a.!b+c.b; addTeam; shortest 0 1 = 0; go 0 1; shortest 0 0 = 2; shortest 0 1 = 2; "
                + "go 0 0; shortest 0 1 = 2");
    }

    private static void quickest() {
        String part = "Promise 20";
        namesNoBoundary(part, "Tells the quickest way of a team to the chest.");
        told(part, "0: the fewest minutes from now on;");
        run("addTeam; quickest 0 0 = 2; go 0 0; quickest 0 0 = 1");
        run("hunt " + ZIGZAG + "; addTeam; quickest 0 0 = 190; go 0 0; quickest 0 0 = 171; go 0 1; go 0 2; go 0 3; "
                + "go 0 4; go 0 5; go 0 6; go 0 7; quickest 0 0 = 38; go 0 8; quickest 0 0 = 19; move 9 9 9; "
                + "quickest 0 0 = 1; move 8 0 0; quickest 0 0 = 19");
        run("hunt H/00*/99*; addTeam; quickest 0 0 = 19; go 0 0; quickest 0 0 = 19; move 0 9 9; quickest 0 0 = 1");
        run("hunt " + TEN_FREE.replace("00", "99") + "; addTeam; quickest 0 0 = 19; " + goTo(0, 9)
                + "quickest 0 0 = 1");
        told(part, "1: the first place of a way that takes so few minutes, among several such places the smallest");
        run("hunt " + TEN_FREE + "; addTeam; quickest 0 1 = 9");
        run("hunt " + ZIGZAG + "; addTeam; quickest 0 1 = 0; " + goTo(0, 9) + "quickest 0 1 = 9");
        run("hunt " + NINE_FREE + "/001[a,b,c,d,e,f,g,h,i]; addTeam; quickest 0 1 = 0; move 0 0 1; quickest 0 1 = 1; "
                + "move 0 0 0; quickest 0 1 = 0");
        run("hunt " + NINE_FREE + "/99h+i; addTeam; quickest 0 0 = 20; quickest 0 1 = 7; move 7 9 9; quickest 0 1 = 7; "
                + "move 8 5 5; quickest 0 1 = 7; move 9 5 5; quickest 0 0 = 12; quickest 0 1 = 8");
        // A place on the way takes a minute more.
        run("hunt H/11*/20*/30*; addTeam; quickest 0 0 = 4; quickest 0 1 = 2; move 0 0 0; quickest 0 1 = 2");
        run("hunt H/20*/01*/40a+b; addTeam; quickest 0 0 = 6; quickest 0 1 = 0; move 0 3 1; quickest 0 0 = 8; "
                + "quickest 0 1 = 0; move 0 3 2; quickest 0 0 = 8; quickest 0 1 = 1");
    }

    private static void whatOfWays(String part, String name) {
        namesNoBoundary(part, "what:");
        String zero = name + " 0 0 = ";
        String one = name + " 0 1 = ";
        told(part, "Returns that number; 0 and NONE if the team has visited the chest; NONE if it cannot reach the chest.");
        run("addTeam; go 0 0; go 0 1; " + zero + "0; " + one + "NONE");
        run("hunt " + ZIGZAG + "; addTeam; " + goTo(0, 10) + zero + "0; " + one + "NONE");
        run("hunt " + TEN_FREE + "; addTeam; go 0 9; " + zero + "0; " + one + "NONE");
        run("hunt H/00!*/00!*; addTeam; " + zero + "NONE; " + one + "NONE; ease 1; " + zero + "1; " + one + "1");
        run("hunt " + CLOSING + "; addTeam; go 0 0; " + zero + "NONE; " + one + "NONE; go 0 1; " + zero + "NONE; " + one
                + "NONE; undo; undo; go 0 1; " + one + "2");
        run("hunt " + NINE_FREE + "/00!*; addTeam; " + zero + "NONE; " + one + "NONE");
        noSuchTeam(part, name + " # 0");
        told(part, "Throws IllegalArgumentException if what is not 0 or 1");
        each("addTeam", name + " 0 #", "ARGUMENT", -1, 2, 3, -9, 256, 65536, MOST, LEAST);
        each("addTeam; go 0 0; go 0 1", name + " 0 #", "ARGUMENT", -1, 2);
        each("hunt H/00!*/00!*; addTeam", name + " 0 #", "ARGUMENT", -1, 2);
        each("addTeam", name + " 1 #", "INDEX", 0, 2, -1);
    }

    private static void orders() {
        String part = "Promise 21";
        namesNoBoundary(part, "Counts the ways of a team to the chest.");
        told(part, "Returns in how many orders it can visit places from now on so that the last one is the chest; 1 if it has"
                + " visited the chest, 0 if it cannot reach it.");
        run("addTeam; orders 0 = 1; go 0 0; orders 0 = 1; go 0 1; orders 0 = 1");
        run("hunt " + TEN_FREE + "; addTeam; orders 0 = 986410; go 0 0; orders 0 = 109601; go 0 8; orders 0 = 13700; "
                + "go 0 9; orders 0 = 1");
        run("hunt " + TEN_FREE + "; addTeam; " + goTo(0, 9) + "orders 0 = 1");
        run("hunt " + ZIGZAG + "; addTeam; orders 0 = 1; " + goTo(0, 10) + "orders 0 = 1");
        run("hunt " + NINE_FREE + "/00!*; addTeam; orders 0 = 0");
        run("hunt " + NINE_FREE + "/00a.b.c.d.e.f.g.h.i; addTeam; orders 0 = 362880");
        run("hunt " + CLOSING + "; addTeam; orders 0 = 2; go 0 0; orders 0 = 0; go 0 1; orders 0 = 0");
        run("hunt " + BOTH + "; 2 times addTeam; orders 0 = 2; go 0 0; orders 0 = 1; go 1 2; orders 1 = 0");
        noSuchTeam(part, "orders #");
    }

    private static void safe() {
        String part = "Promise 22";
        namesNoBoundary(part, "Tells which places are safe for a team.");
        told(part, "Returns these places, as bits.");
        run("addTeam; safe 0 = 1; go 0 0; safe 0 = 2; go 0 1; safe 0 = 0");
        run("hunt " + TEN_FREE + "; addTeam; safe 0 = 1023; go 0 0; safe 0 = 1022; go 0 9; safe 0 = 0");
        run("hunt " + ZIGZAG + "; addTeam; safe 0 = 1; " + goTo(0, 9) + "safe 0 = 512; go 0 9; safe 0 = 0");
        run("hunt " + NINE_FREE + "/00!*; addTeam; open 0 = 511; safe 0 = 0; ease 9; safe 0 = 1023");
        run("hunt " + BOTH + "; addTeam; open 0 = 7; safe 0 = 3; go 0 1; open 0 = 5; safe 0 = 1; go 0 0; open 0 = 12; "
                + "safe 0 = 8; go 0 2; open 0 = 0; safe 0 = 0");
        noSuchTeam(part, "safe #");
    }

    private static void needed() {
        String part = "Promise 23";
        namesNoBoundary(part, "Tells what a team cannot do without.");
        told(part, "Returns the places, as bits, that are visited from now on in each of its orders() to the chest (0 if it has"
                + " visited the chest); NONE if it cannot reach the chest.");
        run("addTeam; needed 0 = 3; go 0 0; needed 0 = 2; go 0 1; needed 0 = 0");
        run("hunt " + ZIGZAG + "; addTeam; needed 0 = 1023; go 0 0; needed 0 = 1022; go 0 1; go 0 2; go 0 3; go 0 4; "
                + "go 0 5; go 0 6; go 0 7; go 0 8; needed 0 = 512; go 0 9; needed 0 = 0");
        run("hunt " + TEN_FREE + "; addTeam; needed 0 = 512; " + goTo(0, 9) + "needed 0 = 512");
        run("hunt " + NINE_FREE + "/00!*; addTeam; needed 0 = NONE");
        run("hunt H/00*/00*/00a+b; addTeam; needed 0 = 4; go 0 1; needed 0 = 4");
        run("hunt " + BOTH + "; addTeam; needed 0 = 11; go 0 0; needed 0 = 10; go 0 1; needed 0 = 8; go 0 2; needed 0 = NONE");
        run("hunt " + CLOSING + "; addTeam; needed 0 = 14; go 0 0; needed 0 = NONE; go 0 1; needed 0 = NONE");
        noSuchTeam(part, "needed #");
    }

    private static void deadEnds() {
        String part = "Promise 24";
        namesNoBoundary(part, "Counts the dead ends of the hunt.");
        told(part, "Returns how many sets of places without the chest a team could come to have visited from the beginning on"
                + " with which it cannot reach the chest.");
        run("deadEnds = 0");
        run("hunt H/00!*/00!*; deadEnds = 1; ease 0; deadEnds = 2; ease 1; deadEnds = 0");
        run("hunt " + NINE_FREE + "/00!*; deadEnds = 512; 3 times addTeam; go 0 0; deadEnds = 512");
        run("hunt " + TEN_FREE + "; deadEnds = 0");
        run("hunt " + ZIGZAG + "; deadEnds = 0");
        run("hunt " + ZIGZAG.substring(0, ZIGZAG.length() - 1) + "!i.i; deadEnds = 10");
        // Any place closes the chest: of the 512 sets the empty one alone is no dead end.
        run("hunt " + NINE_FREE + "/00!1[a,b,c,d,e,f,g,h,i]; deadEnds = 511");
        run("hunt " + CLOSING + "; deadEnds = 2");
        run("hunt " + BOTH + "; deadEnds = 4");
        run("hunt H/00*/00!*/00a+b; deadEnds = 0");
        run("hunt H/00*/00!*/00b; deadEnds = 2; addTeam; go 0 0; deadEnds = 2; ease 1; deadEnds = 0");
    }

    private static void easeBy() {
        String part = "Promise 25";
        namesNoBoundary(part, "Finds the riddle that should be made easier.");
        told(part, "Returns the smallest place with which deadEnds() would be 0 behind ease(); NONE if there is none, or if it is"
                + " 0 now.");
        run("easeBy = NONE");
        run("hunt " + TEN_FREE + "; easeBy = NONE");
        run("hunt H/00!*/00!*; easeBy = 1; deadEnds = 1; ease 1; easeBy = NONE");
        run("hunt H/00!*/00a; easeBy = 0; ease 0; easeBy = NONE");
        run("hunt H/00!*/00a/00a; easeBy = 0");
        run("hunt " + NINE_FREE + "/00!*; easeBy = 9; ease 9; easeBy = NONE; undo; easeBy = 9; ease 8; easeBy = 9");
        run("hunt " + NINE_FREE.replace("00*", "00!*") + "/00i; easeBy = 8; ease 8; easeBy = NONE");
        run("hunt " + NINE_FREE.replace("00*", "00!*") + "/00h.i; easeBy = 9");
        run("hunt " + NINE_FREE.replace("00*", "00!*") + "/00h+i; easeBy = 7");
        run("hunt " + CLOSING + "; easeBy = 2; ease 2; easeBy = NONE");
        // To ease the chest always helps, so that there is always one as long as there are dead ends.
        run("hunt " + BOTH + "; easeBy = 3");
        run("hunt H/00!*/00!*/00!*; 3 times addTeam; ease 0; ease 1; easeBy = 2");
    }

    // Promise 26

    private static final String SCRIPT = "Promise 26";
    /** A chain: team 0 is at a, by 3 minutes, and team 1 in the camp. */
    private static final String TWO = "hunt H/11*/22a/33b; 2 times addTeam; go 0 0; ";

    /** Each of these, on the state that the calls leave: the number of commands, the script, and what is due. */
    private static void scripts(String before, String... told) {
        StringBuilder lines = new StringBuilder(before).append("; ");
        for (String one : told) {
            lines.append("runScript ").append(one).append("; ");
        }
        run(lines.toString());
    }

    private static void scripts() {
        told(SCRIPT, "Runs a script on a copy of the state.");
        // run() looks behind each script at all that there is, is remembered, and is saved.
        scripts(FULL, "4 1020103040008100 = NONE", "4 2000200020002000 = NONE", "4 7099718970007399 = NONE",
                "4 4000400040004000 = NONE", "4 8000810082008300 = NONE", "4 4300300013101320 = NONE", "1 4000 = NONE");
        scripts(TWO, "4 3000300030001010 = 2", "1 1010 = NONE", "1 1010 = NONE");
        told(SCRIPT, "A script has 1 to 4 commands;");
        scripts("", "1 3000 = NONE", "2 30003000 = NONE", "3 300030003000 = NONE", "4 3000300030003000 = NONE",
                "0 0 ! ARGUMENT", "0 3000 ! ARGUMENT", "5 0 ! ARGUMENT", "5 30003000300030003 ! ARGUMENT");
        told(SCRIPT, "each is a group of four decimal digits d1 to d4, and the first command is the highest group of the number"
                + " (with zeros before it, if it has fewer digits).");
        scripts("", "1 3000 = NONE", "2 3000 = 0", "3 3000 = 0", "4 3000 = 0", "2 300 = 0", "1 0 = 0", "4 0 = 0",
                "2 30000000 = 1", "2 30000300 = 1", "3 300030000003 = 2", "4 3000300030000000 = 3",
                "4 3000100010103000 = NONE", "4 1000300010103000 = 0", "4 3000101010003000 = 1", "4 300010001010300 = 0");
    }

    private static void visitsInScripts() {
        told(SCRIPT, "1 t p 0: go(t, p).");
        scripts(TWO, "1 1010 = NONE", "1 1100 = NONE", "1 1000 = 0", "1 1020 = 0", "1 1110 = 0", "2 10101020 = NONE",
                "3 101010201000 = 2", "3 101010201020 = 2", "3 110011101120 = NONE", "2 10106006 = NONE",
                "2 10106005 = 1", "2 10109020 = NONE", "2 10109030 = 1", "1 1030 = 0", "1 1200 = 0");
        scripts("hunt " + TEN_FREE + "; 4 times addTeam", "1 1390 = NONE", "1 1380 = NONE", "2 13901380 = 1", "1 1400 = 0");
        scripts(WALKED, "2 10906028 = NONE", "2 10906027 = 1", "2 11906160 = NONE", "2 11906159 = 1", "2 12906243 = NONE",
                "2 12906242 = 1", "1 1390 = 0");
        told(SCRIPT, "2 t 0 0: hint(t).");
        scripts(TWO, "1 2000 = NONE", "1 2100 = NONE", "1 2200 = 0", "3 101010202000 = 2", "2 10102000 = NONE");
        scripts("hunt " + CLOSING + "; addTeam", "1 2000 = NONE", "2 10002000 = 1", "3 100010102000 = 2",
                "4 1000101083002000 = NONE", "2 10102000 = NONE");
        told(SCRIPT, "3 0 0 0: addTeam().");
        scripts(TWO, "1 3000 = NONE", "2 30003000 = NONE", "3 300030003000 = 2", "2 30001200 = NONE", "2 30001300 = 1",
                "2 30009200 = NONE", "2 30009210 = 1");
        scripts("4 times addTeam", "1 3000 = 0", "2 40003000 = NONE", "3 400030003000 = 2");
        scripts("3 times addTeam", "1 3000 = NONE", "2 30003000 = 1");
        told(SCRIPT, "4 t 0 0: giveUp(t).");
        scripts(TWO, "1 4000 = NONE", "1 4100 = NONE", "1 4200 = 0", "2 40004000 = NONE", "3 400040004000 = 2",
                "2 40004100 = 1", "2 40009000 = NONE", "2 40009010 = 1", "2 41009010 = NONE", "2 41009100 = 1");
        scripts("4 times addTeam", "1 4300 = NONE", "2 43004300 = 1", "4 4000400040004000 = NONE");
        scripts("", "1 4000 = 0", "2 30004000 = NONE", "3 300040004000 = 2");
    }

    private static void checksInScripts() {
        told(SCRIPT, "5 t p 0: succeeds if the place p is safe for the team t.");
        scripts("hunt " + CLOSING + "; 2 times addTeam; go 1 1; go 1 2", "1 5000 = 0", "1 5010 = NONE", "1 5020 = 0",
                "1 5030 = 0", "1 5100 = NONE", "1 5110 = 0", "1 5120 = 0", "1 5130 = NONE", "1 5040 = 0", "1 5200 = 0",
                "2 11305130 = 1", "2 11305100 = 1", "2 10005010 = 1", "2 83005000 = NONE");
        scripts("hunt " + TEN_FREE + "; addTeam", "1 5090 = NONE", "1 5080 = NONE", "2 10905080 = 1");
        told(SCRIPT, "6 t x x: succeeds if the team t has at most xx minutes.");
        scripts(TWO, "1 6003 = NONE", "1 6002 = 0", "1 6004 = NONE", "1 6000 = 0", "1 6100 = NONE", "1 6199 = NONE",
                "1 6200 = 0", "1 6299 = 0");
        told(SCRIPT, "xx is a decimal number.");
        String far = "hunt " + ZIGZAG + "; 2 times addTeam; ";
        scripts(far + "go 0 0", "1 6019 = NONE", "1 6018 = 0", "1 6020 = NONE", "1 6013 = 0", "1 6009 = 0", "1 6091 = NONE");
        scripts(far + goTo(0, 5) + "move 5 9 6; go 0 5 = 99", "1 6099 = NONE", "1 6098 = 0", "1 6089 = 0");
        scripts(far + goTo(0, 5) + "move 5 9 5; go 0 5 = 100", "1 6099 = 0", "1 6000 = 0", "1 6010 = 0");
        scripts(far + goTo(0, 10), "1 6099 = 0", "1 6090 = 0", "1 6100 = NONE");
        told(SCRIPT, "9 t n 0: succeeds if the team t has visited at least n places.");
        scripts(TWO, "1 9000 = NONE", "1 9010 = NONE", "1 9020 = 0", "1 9100 = NONE", "1 9110 = 0", "1 9200 = 0");
        scripts(far + goTo(0, 8), "1 9080 = NONE", "1 9090 = 0", "1 9070 = NONE", "1 9190 = 0");
        scripts(far + goTo(0, 9), "1 9090 = NONE", "1 9080 = NONE", "2 10909090 = NONE");
        scripts(far + goTo(0, 10), "1 9090 = NONE", "1 9000 = NONE", "1 9100 = NONE", "1 9110 = 0");
    }

    private static void changesInScripts() {
        told(SCRIPT, "7 p x y: move(p, x, y).");
        scripts(TWO, "1 7000 = NONE", "1 7099 = NONE", "1 7200 = NONE", "1 7299 = NONE", "1 7300 = 0", "1 7999 = 0",
                "3 719010106019 = NONE", "3 719010106013 = NONE", "3 719010106012 = 2", "3 710910106013 = NONE",
                "3 710910106012 = 2",
                "3 709910106018 = NONE", "3 709910106017 = 2");
        scripts("hunt " + TEN_FREE + "; addTeam", "1 7999 = NONE", "3 799910906019 = NONE", "3 799910906018 = 2",
                "3 790910906010 = NONE", "3 790910906009 = 2", "3 799010906010 = NONE", "3 799010906009 = 2");
        told(SCRIPT, "8 p 0 0: ease(p).");
        scripts(TWO, "1 8000 = NONE", "1 8200 = NONE", "1 8300 = 0", "2 82001020 = NONE", "2 81001020 = 1",
                "2 82001120 = NONE", "4 8200820082008200 = NONE");
        scripts("hunt " + NINE_FREE + "/00!*; addTeam", "1 8900 = NONE", "2 89001090 = NONE", "2 88001090 = 1");
    }

    private static void failingCommands() {
        told(SCRIPT, "The commands 1 to 4, 7 and 8 fail if the method would throw an exception;");
        scripts(TWO, "1 1000 = 0", "1 1020 = 0", "1 1030 = 0", "1 1200 = 0", "1 1900 = 0", "1 1090 = 0", "1 2200 = 0",
                "3 101010202000 = 2", "3 300030003000 = 2", "1 4200 = 0", "1 4900 = 0", "1 7300 = 0", "1 7900 = 0",
                "1 8300 = 0", "1 8900 = 0");
        told(SCRIPT, "commands with teams or places that do not exist fail,");
        for (String before : new String[] {"", "addTeam", "hunt " + NINE_FREE + "; 3 times addTeam"}) {
            int teams = before.endsWith("3 times addTeam") ? 3 : before.isEmpty() ? 0 : 1;
            int places = before.contains("hunt") ? 9 : 2;
            List<String> told = new ArrayList<>();
            for (int none = teams; none <= 9; none++) {
                for (int first : new int[] {1000, 2000, 4000, 5000, 6000, 6099, 9000}) {
                    told.add("1 " + (first + 100 * none) + " = 0");
                }
            }
            for (int none = places; none <= 9; none++) {
                for (int first : new int[] {7000, 7055, 8000}) {
                    told.add("1 " + (first + 100 * none) + " = 0");
                }
                told.add("1 " + (1000 + 10 * none) + " = 0");
                told.add("1 " + (5000 + 10 * none) + " = 0");
            }
            scripts(before, told.toArray(new String[0]));
        }
        told(SCRIPT, "and so does any other group (also one with another digit where a 0 is written).");
        scripts(TWO, "1 0 = 0", "1 1 = 0", "1 10 = 0", "1 100 = 0", "1 999 = 0", "1 1011 = 0", "1 1019 = 0", "1 2001 = 0",
                "1 2010 = 0", "1 3001 = 0", "1 3010 = 0", "1 3100 = 0", "1 4001 = 0", "1 4010 = 0", "1 5011 = 0",
                "1 8001 = 0", "1 8010 = 0", "1 9001 = 0", "1 9009 = 0", "1 9011 = 0", "2 30000000 = 1");
    }

    /** All 10,000 groups on one state: those that succeed are written out, and all others fail. */
    private static void allCommands() {
        List<Integer> succeeding = new ArrayList<>(List.of(1010, 1100, 2000, 2100, 3000, 4000, 4100, 5010, 5100, 8000,
                8100, 8200, 9000, 9010, 9100));
        for (int xx = 0; xx <= 99; xx++) {
            if (xx >= 3) {
                succeeding.add(6000 + xx);
            }
            succeeding.add(6100 + xx);
            for (int p = 0; p < 3; p++) {
                succeeding.add(7000 + 100 * p + xx);
            }
        }
        Calls object = Calls.after(calls(TWO));
        for (int command = 0; command <= 9999; command++) {
            if (object.left() == 0) {
                object = Calls.after(calls(TWO));
            }
            String due = succeeding.contains(command) ? "-9" : "0";
            same("runScript 1 " + command, object.answer("runScript 1 " + command), due);
        }
    }

    private static void scriptNumbers() {
        told(SCRIPT, "n: number of commands, 1 to 4");
        each("", "runScript # 3000", "-9", 1);
        each("", "runScript # 3000", "0", 2, 3, 4);
        told(SCRIPT, "script: the commands, a number of at most 4 * n digits (0 or more)");
        scripts("", "1 0 = 0", "1 9999 = 0", "2 0 = 0", "2 99999999 = 0", "3 999999999999 = 0", "4 9999999999999999 = 0",
                "4 0 = 0", "2 10000 = 0", "3 100000000 = 0", "4 1000000000000 = 0", "4 3000300030003000 = NONE");
        told(SCRIPT, "Returns the index, from 0, of the first command that fails; NONE if all succeed.");
        scripts("", "1 0 = 0", "1 3000 = NONE", "2 30000000 = 1", "2 3000 = 0", "3 300030000000 = 2", "3 300000000000 = 1",
                "4 3000300030000000 = 3", "4 3000300000000000 = 2", "4 3000000030000000 = 1", "4 30003000 = 0",
                "4 3000300030003000 = NONE");
        told(SCRIPT, "Throws IllegalArgumentException if n is out of range, or if script is negative or has more than 4 * n"
                + " digits");
        each("", "runScript # 3000", "ARGUMENT", 0, -1, 5, 6, -4, 257, 65537, MOST, LEAST);
        each("", "runScript # 0", "ARGUMENT", 0, 5, -1, MOST, LEAST);
        for (int n = 1; n <= 4; n++) {
            long past = (long) Math.pow(10, 4 * n);
            each("", "runScript " + n + " #", "ARGUMENT", past, past + 1, 10 * past, past + 3000, -1, -3000, -past,
                    1L << 62, Long.MAX_VALUE, Long.MIN_VALUE, Long.MIN_VALUE + 3000);
            each("", "runScript " + n + " #", "0", past - 1, 0, 1);
        }
        // Cut to an int, 2 to the 32nd and 3000 more would be 3000.
        each("", "runScript 1 #", "ARGUMENT", (1L << 32) + 3000, (1L << 33) + 3000);
        each("", "runScript 3 #", "0", (1L << 32) + 3000);
    }

    // Promise 27

    private static final String SIMULATE = "Promise 27";
    private static final BigInteger FACTOR = new BigInteger("6364136223846793005");
    private static final BigInteger STEP = new BigInteger("1442695040888963407");
    private static final BigInteger ROUND = BigInteger.ONE.shiftLeft(64);

    /** The same by numbers without bounds: for places in a row, and what can be visited behind a set of them. */
    private static String simulated(long seed, int m, int[] xs, int[] ys, IntUnaryOperator open) {
        BigInteger x = BigInteger.valueOf(seed).mod(ROUND);
        int came = 0;
        int sum = 0;
        for (int i = 0; i < m; i++) {
            int set = 0;
            int spent = 0;
            int atX = 0;
            int atY = 0;
            while (open.applyAsInt(set) != 0) {
                List<Integer> choice = new ArrayList<>();
                for (int p = 0; p < xs.length; p++) {
                    if ((open.applyAsInt(set) & 1 << p) != 0) {
                        choice.add(p);
                    }
                }
                x = x.multiply(FACTOR).add(STEP).mod(ROUND);
                int p = choice.get(x.shiftRight(33).mod(BigInteger.valueOf(choice.size())).intValue());
                spent += Math.abs(xs[p] - atX) + Math.abs(ys[p] - atY) + 1;
                atX = xs[p];
                atY = ys[p];
                set |= 1 << p;
            }
            if ((set & 1 << xs.length - 1) != 0) {
                came++;
                sum += spent;
            }
        }
        return String.valueOf(100000 * came + sum);
    }

    private static final long[] SEEDS = {0, 1, -1, 77, Long.MAX_VALUE, Long.MIN_VALUE, 1L << 32, -(1L << 33), 1L << 31,
        (1L << 33) - 1};

    /** Of ten free places in a row, whose chest is the last one. */
    private static void simulatedFree(int m) {
        int[] xs = {0, 1, 2, 3, 4, 5, 6, 7, 8, 9};
        int[] ys = {9, 8, 7, 6, 5, 4, 3, 2, 1, 0};
        StringBuilder hunt = new StringBuilder("hunt H");
        for (int p = 0; p < 10; p++) {
            hunt.append("/" + xs[p] + ys[p] + "*");
        }
        StringBuilder lines = new StringBuilder(hunt + "; ");
        for (long seed : SEEDS) {
            String due = simulated(seed, m, xs, ys, set -> (set & 512) != 0 ? 0 : 1023 & ~set);
            lines.append("simulate " + seed + " " + m + " = " + due + "; ");
        }
        run(lines.toString());
    }

    /** c closes the chest, which a opens. */
    private static void simulatedClosing(int m) {
        int[] xs = {1, 9, 5, 0};
        int[] ys = {1, 0, 2, 9};
        StringBuilder lines = new StringBuilder("hunt H/11*/90*/52*/09a.!c; ");
        IntUnaryOperator open = set -> set >= 8 ? 0 : 7 & ~set | ((set & 5) == 1 ? 8 : 0);
        for (long seed : SEEDS) {
            lines.append("simulate " + seed + " " + m + " = " + simulated(seed, m, xs, ys, open) + "; ");
        }
        run(lines.toString());
    }

    private static void simulatedTeams() {
        told(SIMULATE, "Simulates m teams that go one after the other from the beginning, each on its own.");
        run("simulate 0 1 = 100002; simulate 0 2 = 200004; simulate 0 50 = 5000100");
        run("4 times addTeam; go 0 0; go 0 1; go 1 0; hint 1; simulate 0 50 = 5000100; about 1 = 4");
        run("hunt " + ZIGZAG + "; addTeam; " + goTo(0, 9) + "simulate 3 1 = 100190");
        run("hunt H/00!*/00a; simulate 3 1 = 0; ease 0; simulate 3 1 = 100002; move 0 0 9; simulate 3 1 = 100020; "
                + "move 1 9 9; simulate 3 1 = 100020; undo; undo; undo; simulate 3 1 = 0");
        told(SIMULATE, "A long x starts as the seed (once for all teams).");
        simulatedFree(2);
        simulatedClosing(2);
        simulatedFree(50);
        told(SIMULATE, "A team goes on as long as there is a place that it can visit:");
        run("hunt H/00!*/00!*; simulate 1 50 = 0");
        run("hunt " + ZIGZAG + "; simulate 1 1 = 100190");
        run("hunt H/99*/99*/99!*; simulate 1 50 = 0");
        // No more visits behind the chest.
        run("hunt H/90!*/00*; simulate 1 50 = 5000050");
        simulatedClosing(1);
        told(SIMULATE, "x is replaced by x * 6364136223846793005L + 1442695040888963407L (with long overflow), r = (int) (x >>>"
                + " 33) is computed,");
        simulatedFree(1);
        simulatedFree(7);
        told(SIMULATE, "and it visits the place number r % n (from 0) of the n places that it can visit, ascending.");
        simulatedFree(3);
        simulatedClosing(50);
    }

    private static void simulatedNumbers() {
        told(SIMULATE, "seed: any long");
        each("", "simulate # 1", "100002", Long.MIN_VALUE, Long.MIN_VALUE + 1, -1, 0, 1, Long.MAX_VALUE);
        simulatedClosing(11);
        told(SIMULATE, "m: number of teams, 1 to 50");
        run("simulate 5 1 = 100002; simulate 5 2 = 200004; simulate 5 49 = 4900098; simulate 5 50 = 5000100");
        told(SIMULATE, "Returns 100000 * (the number of these teams that come to the chest) + (the sum of the minutes of those,"
                + " or 99999 if this is more).");
        run("hunt H/99*/99*/99!*; simulate 1 1 = 0; simulate 1 50 = 0; ease 2; move 2 0 0; ease 0");
        simulatedClosing(20);
        // No sum is more than 99999: 50 teams come to 190 minutes each at most.
        run("hunt " + ZIGZAG + "; simulate 1 1 = 100190; simulate 1 50 = 5009500");
        run("hunt H/00!*/00*; simulate 1 1 = 100001; simulate 1 50 = 5000050");
    }

    private static void simulateRefuses() {
        told(SIMULATE, "Throws IllegalArgumentException if m is out of range");
        each("", "simulate 5 #", "ARGUMENT", 0, -1, 51, 52, -50, 256 + 1, 65536 + 1, MOST, LEAST);
        each("", "simulate -1 #", "ARGUMENT", 0, 51);
        each("hunt H/00!*/00!*", "simulate 0 #", "ARGUMENT", 0, -1, 51);
        each("hunt H/00!*/00!*", "simulate 0 #", "0", 1, 50);
    }

    // Promises 28 and 29

    private static final long[] NO_SLOT = {-1, 2, 3, -2, -9, 32, 33, 256, 65536, MOST, LEAST};

    private static void save() {
        String part = "Promise 28";
        told(part, "Stores the present state in a save slot.");
        String before = "hunt " + CLOSING + "; 3 times addTeam; go 0 1; go 1 0; hint 0; ease 3; move 2 0 9; ";
        for (int slot = 0; slot < 2; slot++) {
            String after = "save #; giveUp 0; go 0 1; hint 1; move 2 9 0; ease 0; addTeam; restore #; ";
            leaveTheSame(before + after.replace("#", "" + slot) + "save 0; save 1", before + "save 0; save 1; restore 0");
        }
        run("addTeam; save 0 = 1; undo = 0; save 1 = 0; restore 0 = 1; restore 1 = 0; restore 0 = 1");
        run("save 0 = 0; addTeam; save 0 = 1; addTeam; restore 0 = 1; restore 1 ! STATE");
        run("14 times move 0 1 1; save 0 = 0; save 1 = 0; undo = 13; save 1 = 0; undo = 12");
        told(part, "slot: 0 or 1");
        run("save 1 = 0; restore 0 ! STATE; restore 1 = 0; save 0 = 0; restore 0 = 0");
        told(part, "Returns the number of teams.");
        run("save 0 = 0; addTeam; save 0 = 1; addTeam; save 1 = 2; addTeam; save 1 = 3; addTeam; save 0 = 4; save 1 = 4; "
                + "giveUp 0; save 1 = 3");
        told(part, "Throws IndexOutOfBoundsException if there is no such save slot");
        each("", "save #", "INDEX", NO_SLOT);
        each(FULL, "save #", "INDEX", NO_SLOT);
    }

    private static void restore() {
        String part = "Promise 29";
        told(part, "Replaces the state by the one in a save slot, and forgets all remembered states.");
        run("4 times addTeam; save 0; 10 times ease 0; restore 0 = 4; undo ! STATE; about 1 = 4; place 0 3 = 2; addTeam ! STATE; "
                + "ease 1 = 1; undo = 0; undo ! STATE");
        run("save 1; 4 times addTeam; 11 times ease 1"
                + "; restore 1 = 0; undo ! STATE; holds 1 0 = false; team 0 0 ! INDEX; addTeam = 0; undo = 0");
        run("save 0; restore 0 = 0; undo ! STATE; about 0 = 2");
        run("hunt " + ZIGZAG + "; 4 times addTeam; " + goTo(3, 10) + "save 1; 4 times giveUp 0; move 9 5 5; "
                + "restore 1 = 4; team 3 0 = 1023; team 3 2 = 190; trail 3 9 = 9; place 9 0 = 0; team 0 1 = 0; undo ! STATE");
        String others = "4 times giveUp 0; 4 times addTeam; " + walk(3, 8, 4, 7, 3, 6, 2, 5, 1, 9) + walk(2, 5, 6, 7, 8)
                + walk(1, 2, 1, 5, 4, 3, 7, 6, 0) + walk(0, 3, 4, 5, 9);
        for (int slot = 0; slot < 2; slot++) {
            String stored = WALKED + "save " + slot + "; ";
            leaveTheSame(stored + others + "restore " + slot, stored);
        }
        told(part, "The save slot keeps it.");
        run("addTeam; save 0; go 0 0; restore 0 = 1; team 0 0 = 0; go 0 0; go 0 1; hint 0 ! STATE; restore 0 = 1; team 0 0 = 0; "
                + "giveUp 0; move 0 9 9; ease 1; restore 0 = 1; place 0 0 = 0; holds 1 0 = false; undo ! STATE; restore 0 = 1");
        run("addTeam; save 0; save 1; go 0 0; undo; undo = 0; about 1 = 0; restore 0 = 1; restore 1 = 1");
        told(part, "slot: 0 or 1");
        run("save 0 = 0; addTeam; save 1 = 1; restore 0 = 0; restore 1 = 1; restore 0 = 0");
        told(part, "Returns the number of teams then.");
        run("save 0; 4 times addTeam; save 1; restore 0 = 0; restore 1 = 4; giveUp 0; restore 1 = 4; restore 0 = 0");
    }

    private static void restoreRefuses() {
        String part = "Promise 29";
        told(part, "Throws IndexOutOfBoundsException if there is no such save slot");
        each("", "restore #", "INDEX", NO_SLOT);
        each(FULL, "restore #", "INDEX", NO_SLOT);
        told(part, "Throws IllegalStateException if nothing has been saved in it since the last load");
        run("restore 0 ! STATE; restore 1 ! STATE; save 0; restore 1 ! STATE; restore 0 = 0; save 1; restore 1 = 0");
        run("hunt H/00*/00*; save 0; save 1; load = 2; restore 0 ! STATE; restore 1 ! STATE; save 1 = 0; restore 0 ! STATE; "
                + "restore 1 = 0; load = 2; restore 1 ! STATE");
        run("addTeam; save 0; text H/00*; load ! STATE; restore 0 = 1; restore 1 ! STATE; undo ! STATE");
        run("4 times addTeam; restore 0 ! STATE; undo = 3; restore 2 ! INDEX; undo = 2");
    }
}
