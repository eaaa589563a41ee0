/** The boundary cases of the promises 1 to 18: the text, what there is, and the actions. */
final class StateBoundaries extends Boundary {
    /** 120 characters. */
    private static final String LONGEST = "H/00*/00" + "!".repeat(111) + "a";

    static void tellAll() {
        newObject();
        append();
        clearText();
        errorPosition();
        loadReplaces();
        loadForgets();
        loadRefuses();
        aboutPlacesAndTeams();
        aboutTheRest();
        place();
        holds();
        team();
        trail();
        open();
        addTeam();
        go();
        goRefuses();
        hint();
        giveUp();
        move();
        moveRefuses();
        ease();
        undo();
        undoRefuses();
    }

    private static void newObject() {
        String part = "Promise 1";
        told(part, "Creates a hunt with two places and without teams.");
        run("""
                about 0 = 2
                about 1 = 0
                about 2 = 0
                about 3 = 0
                about 4 = 0
                about 5 = 0
                place 1 0 = 0
                place 2 0 ! INDEX
                place 0 2 = 0
                place 0 3 = 2
                place 1 3 = 1
                team 0 0 ! INDEX
                deadEnds = 0
                easeBy = NONE
                errorPosition = 0
                undo ! STATE
                restore 0 ! STATE
                restore 1 ! STATE
                load ! STATE
                clearText = 0
                """);
        // What is done to one object says nothing about another.
        run(FULL);
        run("about 0 = 2\nabout 1 = 0\nclearText = 0\nundo ! STATE\nrestore 0 ! STATE\nplace 0 1 = 0\nplace 1 3 = 1");
    }

    private static void append() {
        String part = "Promise 2";
        told(part, "Appends a character to the text buffer.");
        run("""
                append 72
                append 47
                append 48
                append 57
                append 42
                append 47
                append 57
                append 48
                errorPosition = 8
                append 97
                errorPosition = NONE
                append 32
                errorPosition = 9
                """);
        run("append 200\nerrorPosition = 0");
        told(part, "c: character code, 0 to 255");
        StringBuilder lines = new StringBuilder();
        for (int c = 0; c <= 255; c++) {
            lines.append("append " + c + " = 1\nclearText = 1\n");
        }
        run(lines.toString());
        told(part, "Returns the new length of the text.");
        lines.setLength(0);
        for (int i = 1; i <= 120; i++) {
            lines.append("append 255 = " + i + "\n");
        }
        run(lines + "clearText = 120\nappend 0 = 1\nappend 0 = 2");
        told(part, "Throws IllegalArgumentException if c is out of range");
        each("", "append #", "ARGUMENT", -1, 256, 328, 65536 + 72, -184, -256, 1 << 16, MOST, LEAST);
        each("text H/00*/00*", "append #", "ARGUMENT", -1, 256, MOST, LEAST);
        each("120 times append 72", "append #", "ARGUMENT", -1, 256, MOST, LEAST);
        run("append 0 = 1\nappend 255 = 2");
        told(part, "Throws IllegalStateException if the text already has 120 characters");
        run("119 times append 72\nappend 255 = 120\nappend 0 ! STATE\nappend 255 ! STATE\nclearText = 120\nappend 0 = 1");
        run("hunt " + LONGEST + "\nappend 97 ! STATE\nerrorPosition = NONE\nload = 2\nappend 97 ! STATE");
    }

    private static void clearText() {
        String part = "Promise 3";
        told(part, "Empties the text buffer.");
        run("text H/00*/00*\nclearText\nerrorPosition = 0\nload ! STATE\nappend 72 = 1\nerrorPosition = 1");
        run("120 times append 72\nclearText\nerrorPosition = 0\nappend 72 = 1");
        run("hunt H/12*/34*/56*\nclearText\nabout 0 = 3\nplace 2 1 = 6");
        told(part, "Returns the previous length of the text.");
        run("clearText = 0\nclearText = 0\nappend 0 = 1\nclearText = 1\nclearText = 0");
        run("119 times append 72\nclearText = 119\n120 times append 72\nappend 1 ! STATE\nclearText = 120\nclearText = 0");
    }

    private static void errorPosition() {
        String part = "Promise 4";
        namesNoBoundary(part, "Checks the text.");
        told(part, "Returns the error position of the text; NONE if it is a hunt.");
        run("errorPosition = 0\nappend 0\nerrorPosition = 0\nclearText\nappend 72\nerrorPosition = 1");
        run("120 times append 72\nerrorPosition = 1");
        run("text " + LONGEST.replace('a', 'b') + "\nerrorPosition = 119");
        run("text " + LONGEST.replace('a', '!') + "\nerrorPosition = 120");
        run("text " + LONGEST + "\nerrorPosition = NONE");
        run("text H/00*/00*\nerrorPosition = NONE\nerrorPosition = NONE\nabout 0 = 2");
        run("text " + TEN_FREE + "\nerrorPosition = NONE\nabout 0 = 2");
        run("text H/00*/00\nerrorPosition = 8\nappend 97\nerrorPosition = NONE\nappend 46\nerrorPosition = 10");
    }

    private static void loadReplaces() {
        String part = "Promise 5";
        told(part, "Replaces the hunt by that of the text; there are no teams then.");
        String[] before = {"", "hunt " + TEN_FREE, "hunt " + ZIGZAG + "\n4 times addTeam\n" + goTo(3, 10),
            FULL, "ease 1\nmove 0 9 9\nmove 1 9 9\nsave 0", "hunt " + TEN_FREE + "\nsave 1\nease 9\nmove 9 9 9"};
        for (String one : before) {
            for (String text : new String[] {"H/12*/34!a", CLOSING, ZIGZAG, TEN_FREE}) {
                leaveTheSame(one + "\nhunt " + text, "hunt " + text);
            }
        }
        run(FULL + "text H/98!*/76!a\nload = 2\nabout 1 = 0\nteam 0 0 ! INDEX\nplace 0 0 = 9\nplace 0 1 = 8\n"
                + "place 0 3 = 0\nplace 1 3 = 1\nplace 2 0 ! INDEX\naddTeam = 0\nopen 0 = 2");
        told(part, "Keeps the text.");
        run("text H/00*/00*\nload = 2\nerrorPosition = NONE\nload = 2\nclearText = 9");
        run("text " + LONGEST + "\nload = 2\nappend 97 ! STATE\nclearText = 120");
        told(part, "Returns the number of places.");
        for (int n = 2; n <= 10; n++) {
            run("text H" + "/99*".repeat(n) + "\nload = " + n + "\nabout 0 = " + n);
        }
    }

    private static void loadForgets() {
        String part = "Promise 5";
        told(part, "Forgets all remembered states and empties both save slots.");
        run(FULL + "text H/00*/00*\nload = 2\nundo ! STATE\nrestore 0 ! STATE\nrestore 1 ! STATE\naddTeam = 0\nundo = 0"
                + "\nundo ! STATE\nsave 1 = 0\nrestore 0 ! STATE\nrestore 1 = 0");
        run("text H/00*/00*\nload = 2\naddTeam\nload = 2\nundo ! STATE\nsave 0 = 0\nload = 2\nrestore 0 ! STATE"
                + "\nrestore 1 ! STATE\nsave 1 = 0\nload = 2\nrestore 0 ! STATE\nrestore 1 ! STATE");
    }

    private static void loadRefuses() {
        String part = "Promise 5";
        told(part, "Throws IllegalStateException if the text is not a hunt");
        String[] noHunts = {"H", "H/00*", "H/00*/00", "H/00*/00a.", "H/00*/00(a", "H/00*/00b", "H/00*/00*x",
            TEN_FREE + "/00*", "h/00*/00*"};
        for (String text : noHunts) {
            run("text " + text + "\nload ! STATE\nabout 0 = 2\nclearText = " + text.length());
            run("hunt H/12*/34a/56b\naddTeam\ngo 0 0\nsave 1\nease 2\ntext " + text
                    + "\nload ! STATE\nabout 0 = 3\nteam 0 2 = 4\nplace 2 3 = 4\nplace 2 0 = 5\nundo = 2\nrestore 1 = 1");
        }
        run("load ! STATE\nabout 0 = 2");
        run(FULL + "load ! STATE\nrestore 1 = 4\nclearText = 120\nload ! STATE\nrestore 0 = 4");
    }

    private static void aboutPlacesAndTeams() {
        String part = "Promise 6";
        namesNoBoundary(part, "Returns a number.");
        namesNoBoundary(part, "Returns that number.");
        namesNoBoundary(part, "what:");
        told(part, "0: the number of places;");
        run("about 0 = 2\nhunt " + TEN_FREE + "\nabout 0 = 10\nhunt H/00*/00*\nabout 0 = 2");
        told(part, "1: of teams;");
        run("about 1 = 0\naddTeam\nabout 1 = 1\n3 times addTeam\nabout 1 = 4\naddTeam ! STATE\nabout 1 = 4\n"
                + "4 times giveUp 0\nabout 1 = 0");
        told(part, "2: of teams that have visited the chest;");
        run("hunt H/00*/00*/00*\nabout 2 = 0\n4 times addTeam\ngo 0 0\ngo 0 1\nabout 2 = 0\ngo 0 2\nabout 2 = 1\n"
                + "go 1 2\ngo 2 2\ngo 3 1\nabout 2 = 3\ngo 3 2\nabout 2 = 4\ngiveUp 0\nabout 2 = 3\n3 times giveUp 0\n"
                + "about 2 = 0");
        run("hunt " + ZIGZAG + "\naddTeam\n" + goTo(0, 9) + "about 2 = 0\ngo 0 9\nabout 2 = 1");
    }

    private static void aboutTheRest() {
        String part = "Promise 6";
        told(part, "3: the greatest score of a team (0 without teams);");
        run("about 3 = 0\naddTeam\nabout 3 = 0\ngo 0 0\nabout 3 = 0\ngo 0 1\nabout 3 = 198\ngiveUp 0\nabout 3 = 0");
        run("hunt H/00*/00*\n4 times addTeam\nhint 0\ngo 0 1\nhint 1\nhint 1\ngo 1 1\nhint 3\ngo 3 0\ngo 3 1\n"
                + "about 3 = 189\ngo 2 1\nabout 3 = 199\ngiveUp 2\nabout 3 = 189\ngiveUp 0\nabout 3 = 188");
        run("hunt H/00*/99*\naddTeam\n30 times hint 0\ngo 0 1\nabout 3 = 0");
        told(part, "4: the number of places that some team has visited;");
        run("hunt " + TEN_FREE + "\nabout 4 = 0\n4 times addTeam\nabout 4 = 0\ngo 0 8\nabout 4 = 1\ngo 1 8\nabout 4 = 1\n"
                + "go 1 9\nabout 4 = 2\n" + goTo(3, 8) + "about 4 = 10\ngo 3 8\ngo 3 9\nabout 4 = 10\n"
                + "giveUp 3\nabout 4 = 2\ngiveUp 1\nabout 4 = 1\ngiveUp 0\nabout 4 = 0\ngiveUp 0\nabout 4 = 0");
        told(part, "5: of hints of all teams");
        run("about 5 = 0\n4 times addTeam\nabout 5 = 0\n3 times hint 0\n2 times hint 3\nabout 5 = 5\nhint 1\nabout 5 = 6\n"
                + "giveUp 0\nabout 5 = 3\n3 times giveUp 0\nabout 5 = 0");
        run("addTeam\n500 times hint 0\nabout 5 = 500");
        told(part, "Throws IllegalArgumentException if what is not 0 to 5");
        each("", "about #", "ARGUMENT", -1, 6, 7, -9, 256, 65536, MOST, LEAST);
        each("hunt " + TEN_FREE + "\n4 times addTeam", "about #", "ARGUMENT", -1, 6, 10, MOST, LEAST);
        each("", "about #", "0", 1, 2, 3, 4, 5);
    }

    private static void place() {
        String part = "Promise 7";
        namesNoBoundary(part, "Returns a number of a place.");
        namesNoBoundary(part, "Returns that number.");
        namesNoBoundary(part, "p: place");
        namesNoBoundary(part, "what:");
        told(part, "0: x; 1: y;");
        run("hunt H/09*/90*/55*\nplace 0 0 = 0\nplace 0 1 = 9\nplace 1 0 = 9\nplace 1 1 = 0\nplace 2 0 = 5\nplace 2 1 = 5");
        run("hunt " + NINE_FREE + "/98*\nplace 9 0 = 9\nplace 9 1 = 8\nplace 8 0 = 0");
        told(part, "2: the number of teams that have visited it;");
        run("hunt H/00*/00*/00*\nplace 0 2 = 0\nplace 2 2 = 0\n4 times addTeam\nplace 0 2 = 0\ngo 3 0\nplace 0 2 = 1\n"
                + "go 0 0\ngo 1 0\ngo 2 0\nplace 0 2 = 4\nplace 1 2 = 0\ngo 0 2\ngo 3 2\nplace 2 2 = 2\nplace 0 2 = 4\n"
                + "giveUp 3\nplace 2 2 = 1\nplace 0 2 = 3");
        told(part, "3: for how many of the sets of places without it its condition holds");
        run("place 0 3 = 2\nplace 1 3 = 1");
        run("hunt " + NINE_FREE.replaceFirst("00[*]", "00!*") + "/00a.b.c.d.e.f.g.h.i\nplace 0 3 = 0\nplace 1 3 = 512\n"
                + "place 8 3 = 512\nplace 9 3 = 1");
        run("hunt " + NINE_FREE + "/001[a,b,c,d,e,f,g,h,i]\nplace 9 3 = 511");
        run("hunt H/00*/00!*/00!a/00a.b\nplace 0 3 = 8\nplace 1 3 = 0\nplace 2 3 = 4\nplace 3 3 = 2\nease 1\nplace 1 3 = 8\n"
                + "place 3 3 = 2");
        noSuchPlace(part, "place # 0");
        placesRefused("", "place # 3");
        told(part, "Throws IllegalArgumentException if what is not 0 to 3");
        each("", "place 0 #", "ARGUMENT", -1, 4, 5, -9, 256, 65536, MOST, LEAST);
        each("hunt " + TEN_FREE, "place 9 #", "ARGUMENT", -1, 4, 9, MOST, LEAST);
        each("", "place 2 #", "INDEX", 0, 3, 4, -1);
        each("", "place 0 #", "0", 0, 1, 2);
    }

    private static void holds() {
        String part = "Promise 8";
        namesNoBoundary(part, "Checks a condition.");
        namesNoBoundary(part, "p: place");
        told(part, "set: places that were visited, bit q set if the place q was");
        for (int q = 0; q < 9; q++) {
            String condition = "/00" + (char) ('a' + q);
            run("hunt " + NINE_FREE + condition + "\nholds 9 " + (1 << q) + " = true\nholds 9 " + (511 ^ 1 << q)
                    + " = false\nholds 9 " + (1023 ^ 1 << q) + " = false");
        }
        told(part, "Returns whether the condition of place p holds for them.");
        run("holds 0 0 = true\nholds 0 3 = true\nholds 1 0 = false\nholds 1 1 = true\nholds 1 2 = false\nholds 1 3 = true");
        run("hunt H/00*/00*/00!a.!b/00c+a\nholds 2 0 = true\nholds 2 12 = true\nholds 2 1 = false\nholds 2 2 = false\n"
                + "holds 2 15 = false\nholds 3 0 = false\nholds 3 10 = false\nholds 3 4 = true\nholds 3 15 = true\n"
                + "ease 2\nholds 2 15 = true\nholds 3 10 = false");
        noSuchPlace(part, "holds # 0");
        told(part, "Throws IllegalArgumentException if set is negative or has a bit of no place");
        each("", "holds 0 #", "ARGUMENT", -1, 4, 5, 7, 8, 1024, 1 << 30, MOST, LEAST, LEAST + 1, -4);
        each("hunt " + TEN_FREE, "holds 9 #", "ARGUMENT", -1, 1024, 1025, 2048, 1 << 16, MOST, LEAST, LEAST + 1);
        each("hunt " + NINE_FREE, "holds 0 #", "ARGUMENT", -1, 512, 513, 1024);
        each("hunt " + TEN_FREE + "\nhunt H/00*/00*/00*", "holds 0 #", "ARGUMENT", 8, 9, 512);
        each("", "holds 0 #", "true", 0, 1, 2, 3);
        each("hunt " + TEN_FREE, "holds 9 #", "true", 0, 1, 512, 1022, 1023);
        each("hunt " + NINE_FREE, "holds 0 #", "true", 0, 256, 511);
        each("", "holds 2 #", "INDEX", 0, 4, -1);
    }

    private static void team() {
        String part = "Promise 9";
        namesNoBoundary(part, "Returns a number of a team.");
        namesNoBoundary(part, "Returns that number.");
        namesNoBoundary(part, "what:");
        String all = "hunt " + ZIGZAG + "\n4 times addTeam\n" + goTo(3, 9);
        told(part, "0: the places that it has visited, as bits;");
        run(all + "team 0 0 = 0\nteam 3 0 = 511\ngo 3 9\nteam 3 0 = 1023\nteam 2 0 = 0");
        run("hunt " + TEN_FREE + "\naddTeam\ngo 0 9\nteam 0 0 = 512");
        told(part, "1: how many these are;");
        run(all + "team 0 1 = 0\nteam 3 1 = 9\ngo 3 9\nteam 3 1 = 10\ngo 0 0\nteam 0 1 = 1");
        told(part, "2: its minutes;");
        run(all + "team 0 2 = 0\nteam 3 2 = 171\ngo 3 9\nteam 3 2 = 190");
        run("addTeam\nteam 0 2 = 0\ngo 0 0\nteam 0 2 = 1");
        told(part, "3: its hints;");
        run("2 times addTeam\nteam 1 3 = 0\nhint 1\nteam 1 3 = 1\n400 times hint 1\nteam 1 3 = 401\nteam 0 3 = 0");
        told(part, "4: its score;");
        run(all + "hint 3\nteam 3 4 = 0\ngo 3 9\nteam 3 4 = 0\nteam 0 4 = 0");
        run(all + "go 3 9\nteam 3 4 = 10");
        run("hunt H/00*/00*\naddTeam\nteam 0 4 = 0\ngo 0 1\nteam 0 4 = 199");
        told(part, "5: the last place that it visited, NONE if there is none");
        run(all + "team 0 5 = NONE\nteam 3 5 = 8\ngo 3 9\nteam 3 5 = 9\ngo 0 0\nteam 0 5 = 0\nundo\nteam 0 5 = NONE");
        noSuchTeam(part, "team # 0");
        told(part, "Throws IllegalArgumentException if what is not 0 to 5");
        each("addTeam", "team 0 #", "ARGUMENT", -1, 6, 7, -9, 256, 65536, MOST, LEAST);
        each("4 times addTeam", "team 3 #", "ARGUMENT", -1, 6, MOST, LEAST);
        each("addTeam", "team 1 #", "INDEX", 0, 6, -1);
        each("addTeam", "team 0 #", "0", 0, 1, 2, 3, 4);
    }

    private static void trail() {
        String part = "Promise 10";
        namesNoBoundary(part, "Returns a place that a team visited.");
        told(part, "i: 0 for the first one that it visited, 1 for the second one, and so on");
        StringBuilder lines = new StringBuilder("hunt " + TEN_FREE + "\n4 times addTeam\n");
        int[] order = {8, 0, 7, 1, 6, 2, 5, 3, 4, 9};
        for (int p : order) {
            lines.append("go 3 " + p + "\n");
        }
        for (int i = 0; i < 10; i++) {
            lines.append("trail 3 " + i + " = " + order[i] + "\n");
        }
        run(lines.toString());
        told(part, "Returns the place; NONE if it has not visited so many.");
        run("addTeam\ntrail 0 0 = NONE\ngo 0 0\ntrail 0 0 = 0\ntrail 0 1 = NONE\ngo 0 1\ntrail 0 1 = 1\ntrail 0 2 = NONE");
        run(lines + "trail 3 10 = NONE\ntrail 3 11 = NONE\ntrail 2 0 = NONE\ntrail 2 9 = NONE");
        each("addTeam\ngo 0 0", "trail 0 #", "-9", 1, 2, 9, 10, 32, 256, 65536, MOST - 1, MOST);
        each("2 times addTeam\ngo 1 0\ngo 1 1", "trail 0 #", "-9", 0, 1, 10, 11, MOST);
        run("addTeam\ngo 0 0\nundo\ntrail 0 0 = NONE\ngo 0 0\ngiveUp 0\naddTeam\ntrail 0 0 = NONE");
        noSuchTeam(part, "trail # 0");
        told(part, "Throws IllegalArgumentException if i is negative");
        each("addTeam", "trail 0 #", "ARGUMENT", -1, -2, -9, -10, -256, LEAST + 1, LEAST);
        each("4 times addTeam\ngo 3 0", "trail 3 #", "ARGUMENT", -1, -10, LEAST);
        each("addTeam", "trail 1 #", "INDEX", -1, 0, LEAST);
        each("addTeam", "trail 0 #", "-9", 0);
    }

    private static void open() {
        String part = "Promise 11";
        namesNoBoundary(part, "Tells where a team can go.");
        told(part, "Returns the places that it can visit now, as bits.");
        run("hunt " + TEN_FREE + "\n2 times addTeam\nopen 0 = 1023\ngo 0 0\nopen 0 = 1022\ngo 0 9\nopen 0 = 0\nopen 1 = 1023");
        run("hunt " + ZIGZAG + "\naddTeam\nopen 0 = 1\n" + goTo(0, 9) + "open 0 = 512\ngo 0 9\nopen 0 = 0");
        run("hunt H/00!*/00!*\naddTeam\nopen 0 = 0\nease 1\nopen 0 = 2");
        run("hunt " + CLOSING + "\naddTeam\nopen 0 = 3\ngo 0 0\nopen 0 = 2\ngo 0 1\nopen 0 = 0");
        noSuchTeam(part, "open #");
    }

    private static void addTeam() {
        String part = "Promise 12";
        told(part, "Adds a team.");
        run("hunt H/11*/22*\naddTeam\nabout 1 = 1\nteam 0 0 = 0\nteam 0 1 = 0\nteam 0 2 = 0\nteam 0 3 = 0\nteam 0 4 = 0\n"
                + "team 0 5 = NONE\nhint 0\ngo 0 1\ngiveUp 0\naddTeam\nteam 0 0 = 0\nteam 0 1 = 0\nteam 0 2 = 0\n"
                + "team 0 3 = 0\nteam 0 5 = NONE\ntrail 0 0 = NONE\ngo 0 0 = 3");
        told(part, "Returns its number.");
        run("addTeam = 0\naddTeam = 1\naddTeam = 2\naddTeam = 3\ngiveUp 0\naddTeam = 3\n4 times giveUp 0\naddTeam = 0\n"
                + "undo\naddTeam = 0");
        told(part, "Throws IllegalStateException if there are 4 teams");
        run("4 times addTeam\naddTeam ! STATE\naddTeam ! STATE\nabout 1 = 4\nundo = 3\naddTeam = 3\naddTeam ! STATE\n"
                + "giveUp 3 = 3\naddTeam = 3\naddTeam ! STATE");
        run("4 times addTeam\nsave 0\ngiveUp 1\nrestore 0 = 4\naddTeam ! STATE\nundo ! STATE");
    }

    private static void go() {
        String part = "Promise 13";
        told(part, "A team visits a place.");
        run("hunt " + TEN_FREE + "\n4 times addTeam\ngo 3 0\nteam 3 0 = 1\nteam 3 5 = 0\nteam 2 0 = 0\ngo 3 9\nteam 3 0 = 513\n"
                + "trail 3 1 = 9\ngo 0 9\nteam 0 0 = 512\nteam 0 1 = 1\nplace 9 2 = 2");
        told(part, "Returns the minutes of the team then.");
        run("addTeam\ngo 0 0 = 1\ngo 0 1 = 2");
        run("hunt " + ZIGZAG + "\naddTeam\ngo 0 0 = 19\ngo 0 1 = 38\ngo 0 2 = 57\ngo 0 3 = 76\ngo 0 4 = 95\ngo 0 5 = 114\n"
                + "go 0 6 = 133\ngo 0 7 = 152\ngo 0 8 = 171\ngo 0 9 = 190");
        run("hunt H/99*/99*/90*\n2 times addTeam\ngo 1 2 = 10\ngo 0 0 = 19\ngo 0 1 = 20\ngo 0 2 = 30");
    }

    private static void goRefuses() {
        String part = "Promise 13";
        namesNoBoundary(part, "t: team");
        namesNoBoundary(part, "p: place");
        told(part, "Throws IndexOutOfBoundsException if there is no such team or place");
        teamsRefused("go # 0");
        placesRefused("addTeam", "go 0 #");
        each("addTeam", "go 0 #", "INDEX", -1, 2, 3, 10, 32, 33, MOST, LEAST);
        each("hunt " + TEN_FREE + "\naddTeam", "go 0 #", "INDEX", -1, 10, 11, 32, 41, MOST, LEAST);
        each("addTeam\ngo 0 0\ngo 0 1", "go 0 #", "INDEX", -1, 2, 3);
        each("addTeam", "go 1 #", "INDEX", -1, 0, 1, 2);
        run("hunt " + TEN_FREE + "\n4 times addTeam\ngo 3 8 = 1\ngo 3 9 = 2\ngo 0 9 = 1");
        told(part, "Throws IllegalStateException if the team cannot visit it");
        run("addTeam\ngo 0 1 ! STATE\ngo 0 0 = 1\ngo 0 0 ! STATE\ngo 0 1 = 2\ngo 0 1 ! STATE\ngo 0 0 ! STATE");
        run("hunt H/00*/00!a/00*\n2 times addTeam\ngo 0 0\ngo 0 1 ! STATE\ngo 1 1 = 1\ngo 0 2 = 2\ngo 0 1 ! STATE\n"
                + "go 0 2 ! STATE\nease 1\ngo 0 1 ! STATE\ngo 1 2\ngo 1 0 ! STATE");
        run("hunt " + ZIGZAG + "\naddTeam\ngo 0 9 ! STATE\ngo 0 1 ! STATE\n" + goTo(0, 8)
                + "go 0 9 ! STATE\ngo 0 7 ! STATE\ngo 0 8 = 171\ngo 0 8 ! STATE\ngo 0 9 = 190\ngo 0 9 ! STATE\ngo 0 0 ! STATE");
    }

    private static void hint() {
        String part = "Promise 14";
        told(part, "Gives a team a hint (its hints increase by 1).");
        run("4 times addTeam\nhint 3\nteam 3 3 = 1\nhint 3\nteam 3 3 = 2\nteam 2 3 = 0\nteam 0 3 = 0\nhint 0\nteam 0 3 = 1\n"
                + "team 3 2 = 0\nteam 3 0 = 0");
        told(part, "Returns the smallest place that is safe for it.");
        run("addTeam\nhint 0 = 0\ngo 0 0\nhint 0 = 1");
        run("hunt " + ZIGZAG + "\naddTeam\nhint 0 = 0\n" + goTo(0, 8) + "hint 0 = 8\ngo 0 8\nhint 0 = 9");
        run("hunt " + CLOSING + "\naddTeam\nopen 0 = 3\nhint 0 = 1\ngo 0 1\nopen 0 = 5\nhint 0 = 2\ngo 0 2\nhint 0 = 0");
        run("hunt " + TEN_FREE + "\naddTeam\nhint 0 = 0\ngo 0 0\nhint 0 = 1");
        noSuchTeam(part, "hint #");
        told(part, "Throws IllegalStateException if no place is safe for it");
        run("addTeam\ngo 0 0\ngo 0 1\nhint 0 ! STATE\nteam 0 3 = 0");
        run("hunt " + CLOSING + "\naddTeam\ngo 0 0\nopen 0 = 2\nhint 0 ! STATE\ngo 0 1\nopen 0 = 0\nhint 0 ! STATE\n"
                + "team 0 3 = 0\nease 3\nhint 0 = 3");
        run("hunt H/00!*/00!*\naddTeam\nhint 0 ! STATE\nease 1\nhint 0 = 1");
    }

    private static void giveUp() {
        String part = "Promise 15";
        told(part, "A team gives up; the teams behind it get numbers that are smaller by 1.");
        String four = "hunt H/11*/22*/33*/44*\n4 times addTeam\ngo 0 0\ngo 1 1\ngo 1 0\nhint 1\ngo 2 2\ngo 3 3\nhint 0\nhint 0\n";
        run(four + "giveUp 0\nteam 0 0 = 3\nteam 0 2 = 8\nteam 0 3 = 1\ntrail 0 0 = 1\ntrail 0 1 = 0\nteam 1 0 = 4\n"
                + "team 2 0 = 8\nteam 2 4 = 191\nteam 3 0 ! INDEX");
        run(four + "giveUp 1\nteam 0 0 = 1\nteam 0 3 = 2\nteam 1 0 = 4\nteam 1 3 = 0\ntrail 1 0 = 2\ntrail 1 1 = NONE\n"
                + "team 2 0 = 8\nteam 3 0 ! INDEX");
        run(four + "giveUp 2\nteam 1 0 = 3\nteam 2 0 = 8\ntrail 2 0 = 3\nteam 3 0 ! INDEX");
        run(four + "giveUp 3\nteam 0 0 = 1\nteam 1 0 = 3\nteam 2 0 = 4\nteam 3 0 ! INDEX");
        told(part, "Returns the number of teams then.");
        run("4 times addTeam\ngiveUp 3 = 3\ngiveUp 0 = 2\ngiveUp 1 = 1\ngiveUp 0 = 0\ngiveUp 0 ! INDEX");
        noSuchTeam(part, "giveUp #");
    }

    private static void move() {
        String part = "Promise 16";
        namesNoBoundary(part, "p: place");
        told(part, "Moves a place.");
        run("hunt " + TEN_FREE + "\nmove 9 9 8\nplace 9 0 = 9\nplace 9 1 = 8\nplace 8 0 = 0\nmove 0 0 9\nplace 0 0 = 0\n"
                + "place 0 1 = 9\nplace 1 1 = 0\nplace 9 0 = 9");
        told(part, "(The minutes that teams have stay.)");
        run("hunt H/99*/99*\naddTeam\ngo 0 0 = 19\nmove 0 0 0\nteam 0 2 = 19\nmove 1 0 0\nteam 0 2 = 19\ngo 0 1 = 20\n"
                + "move 1 9 9\nteam 0 2 = 20\nteam 0 4 = 180");
        told(part, "x: 0 to 9");
        run("move 0 0 5\nplace 0 0 = 0\nmove 0 9 5\nplace 0 0 = 9\nplace 0 1 = 5");
        told(part, "y: 0 to 9");
        run("move 0 5 0\nplace 0 1 = 0\nmove 0 5 9\nplace 0 1 = 9\nplace 0 0 = 5");
        told(part, "Returns 10 * x + y of its previous coordinates.");
        run("move 1 0 9 = 0\nmove 1 9 0 = 9\nmove 1 9 9 = 90\nmove 1 9 9 = 99\nmove 1 0 0 = 99\nmove 1 0 0 = 0");
    }

    private static void moveRefuses() {
        String part = "Promise 16";
        noSuchPlace(part, "move # 9 9");
        each("", "move 2 # 0", "INDEX", -1, 0, 9, 10);
        each("", "move -1 0 #", "INDEX", -1, 0, 9, 10);
        told(part, "Throws IllegalArgumentException if x or y is out of range");
        each("", "move 0 # 0", "ARGUMENT", -1, 10, 11, 19, 256, 265, 65536, MOST, LEAST);
        each("", "move 0 0 #", "ARGUMENT", -1, 10, 11, 19, 256, 265, 65536, MOST, LEAST);
        each("hunt " + ZIGZAG, "move 9 # 9", "ARGUMENT", -1, 10, MOST, LEAST);
        each("hunt " + ZIGZAG, "move 9 9 #", "ARGUMENT", -1, 10, MOST, LEAST);
        each("", "move 0 # #", "ARGUMENT", -1, 10, MOST, LEAST);
    }

    private static void ease() {
        String part = "Promise 17";
        namesNoBoundary(part, "p: place");
        told(part, "Makes the riddle of a place easier: its condition always holds then.");
        run("hunt H/00!*/00!*/00!*\nease 1\nholds 1 0 = true\nholds 1 7 = true\nholds 0 0 = false\nholds 2 7 = false\naddTeam\n"
                + "open 0 = 2\nease 0\nopen 0 = 3\nease 2\nopen 0 = 7\nholds 0 7 = true\nholds 2 0 = true\nplace 2 3 = 4");
        run("hunt " + ZIGZAG + "\nease 9\nholds 9 0 = true\nholds 9 511 = true\nholds 8 0 = false\nplace 9 3 = 512\n"
                + "addTeam\ngo 0 9 = 1\nundo\nundo\nundo\nholds 9 0 = false");
        told(part, "Returns for how many of the sets of places without it its condition held before.");
        run("ease 0 = 2\nease 1 = 1\nease 1 = 2\nease 0 = 2");
        run("hunt " + NINE_FREE.replaceFirst("00[*]", "00!*") + "/00a.b.c.d.e.f.g.h.i\nease 0 = 0\nease 0 = 512\n"
                + "ease 8 = 512\nease 9 = 1\nease 9 = 512");
        run("hunt H/00*/00*/00a.b/00c.!c\nease 2 = 2\nease 3 = 0\nease 3 = 8\nundo\nundo\nease 3 = 0");
        noSuchPlace(part, "ease #");
    }

    private static void undo() {
        String part = "Promise 18";
        told(part, "Takes back the last action that is remembered.");
        run("addTeam\nmove 0 9 9\nhint 0\nundo\nteam 0 3 = 0\nplace 0 0 = 9\nundo\nplace 0 0 = 0\nabout 1 = 1\nundo\nabout 1 = 0");
        run("4 times addTeam\ngo 0 0\ngo 1 0\ngo 1 1\ngiveUp 0\nundo\nabout 1 = 4\nteam 0 0 = 1\nteam 1 0 = 3\ntrail 1 1 = 1\n"
                + "team 1 2 = 2\nteam 3 0 = 0");
        run("ease 1\nundo\nholds 1 0 = false\nease 1\nease 1\nundo\nholds 1 0 = true\nundo\nholds 1 0 = false");
        run("20 times move 0 9 9\n13 times undo\nundo = 0\nplace 0 0 = 9\nundo ! STATE\nplace 0 0 = 9");
        told(part, "Returns how many states are still remembered.");
        run("addTeam\nundo = 0\naddTeam\naddTeam\nundo = 1\naddTeam\nundo = 1\nundo = 0");
        StringBuilder lines = new StringBuilder("14 times ease 0\n");
        for (int left = 13; left >= 0; left--) {
            lines.append("undo = " + left + "\n");
        }
        run(lines + "undo ! STATE");
        run("15 times ease 0\nundo = 13\nease 0\nundo = 13\nease 0\nease 0\nundo = 13\nundo = 12");
    }

    private static void undoRefuses() {
        String part = "Promise 18";
        told(part, "Throws IllegalStateException if none is remembered");
        run("undo ! STATE\naddTeam\nundo = 0\nundo ! STATE\nundo ! STATE");
        run("14 times ease 0\n14 times undo\nundo ! STATE\nease 0\nundo = 0\nundo ! STATE");
        run("17 times ease 0\n14 times undo\nundo ! STATE\nholds 0 0 = true");
        run("hunt H/00*/00*\nundo ! STATE\naddTeam\nload\nundo ! STATE");
        run("save 0\naddTeam\nrestore 0\nundo ! STATE\nsave 1\nundo ! STATE");
        run("go 0 0 ! INDEX\nmove 0 10 0 ! ARGUMENT\nundo ! STATE");
        run("addTeam\nundo\nshortest 0 0 ! INDEX\ndeadEnds = 0\nrunScript 1 3000 = NONE\nundo ! STATE");
    }
}
