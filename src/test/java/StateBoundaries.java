/** The boundary cases of the promises 1 to 18: the text, what there is, and the actions. */
final class StateBoundaries extends Boundary {
    /** 120 characters. */
    private static final String LONGEST = "H/00*/00" + "!".repeat(111) + "a";

    static void tellAll() {
        newObject();
        append();
        clearText();
        errorPosition();
        loadReplaces();
        loadForgets();
        loadRefuses();
        aboutPlacesAndTeams();
        aboutTheRest();
        place();
        holds();
        team();
        trail();
        open();
        addTeam();
        go();
        goRefuses();
        hint();
        giveUp();
        move();
        moveRefuses();
        ease();
        undo();
        undoRefuses();
    }

    private static void newObject() {
        String part = "Promise 1";
        told(part, "Creates a hunt with two places and without teams.");
        run("""
                about 0 = 2
                about 1 = 0
                about 2 = 0
                about 3 = 0
                about 4 = 0
                about 5 = 0
                place 1 0 = 0
                place 2 0 ! INDEX
                place 0 2 = 0
                place 0 3 = 2
                place 1 3 = 1
                team 0 0 ! INDEX
                deadEnds = 0
                easeBy = NONE
                errorPosition = 0
                undo ! STATE
                restore 0 ! STATE
                restore 1 ! STATE
                load ! STATE
                clearText = 0
                """);
        // What is done to one object says nothing about another.
        run(FULL);
        run("about 0 = 2; about 1 = 0; clearText = 0; undo ! STATE; restore 0 ! STATE; place 0 1 = 0; place 1 3 = 1");
    }

    private static void append() {
        String part = "Promise 2";
        told(part, "Appends a character to the text buffer.");
        run("""
                append 72
                append 47
                append 48
                append 57
                append 42
                append 47
                append 57
                append 48
                errorPosition = 8
                append 97
                errorPosition = NONE
                append 32
                errorPosition = 9
                """);
        run("append 200; errorPosition = 0");
        told(part, "c: character code, 0 to 255");
        StringBuilder lines = new StringBuilder();
        for (int c = 0; c <= 255; c++) {
            lines.append("append " + c + " = 1; clearText = 1; ");
        }
        run(lines.toString());
        told(part, "Returns the new length of the text.");
        lines.setLength(0);
        for (int i = 1; i <= 120; i++) {
            lines.append("append 255 = " + i + "; ");
        }
        run(lines + "clearText = 120; append 0 = 1; append 0 = 2");
        told(part, "Throws IllegalArgumentException if c is out of range");
        each("", "append #", "ARGUMENT", -1, 256, 328, 65536 + 72, -184, -256, 1 << 16, MOST, LEAST);
        each("text H/00*/00*", "append #", "ARGUMENT", -1, 256, MOST, LEAST);
        each("120 times append 72", "append #", "ARGUMENT", -1, 256, MOST, LEAST);
        run("append 0 = 1; append 255 = 2");
        told(part, "Throws IllegalStateException if the text already has 120 characters");
        run("119 times append 72; append 255 = 120; append 0 ! STATE; append 255 ! STATE; clearText = 120; append 0 = 1");
        run("hunt " + LONGEST + "; append 97 ! STATE; errorPosition = NONE; load = 2; append 97 ! STATE");
    }

    private static void clearText() {
        String part = "Promise 3";
        told(part, "Empties the text buffer.");
        run("text H/00*/00*; clearText; errorPosition = 0; load ! STATE; append 72 = 1; errorPosition = 1");
        run("120 times append 72; clearText; errorPosition = 0; append 72 = 1");
        run("hunt H/12*/34*/56*; clearText; about 0 = 3; place 2 1 = 6");
        told(part, "Returns the previous length of the text.");
        run("clearText = 0; clearText = 0; append 0 = 1; clearText = 1; clearText = 0");
        run("119 times append 72; clearText = 119; 120 times append 72; append 1 ! STATE; clearText = 120; clearText = 0");
    }

    private static void errorPosition() {
        String part = "Promise 4";
        namesNoBoundary(part, "Checks the text.");
        told(part, "Returns the error position of the text; NONE if it is a hunt.");
        run("errorPosition = 0; append 0; errorPosition = 0; clearText; append 72; errorPosition = 1");
        run("120 times append 72; errorPosition = 1");
        run("text " + LONGEST.replace('a', 'b') + "; errorPosition = 119");
        run("text " + LONGEST.replace('a', '!') + "; errorPosition = 120");
        run("text " + LONGEST + "; errorPosition = NONE");
        run("text H/00*/00*; errorPosition = NONE; errorPosition = NONE; about 0 = 2");
        run("text " + TEN_FREE + "; errorPosition = NONE; about 0 = 2");
        run("text H/00*/00; errorPosition = 8; append 97; errorPosition = NONE; append 46; errorPosition = 10");
    }

    private static void loadReplaces() {
        String part = "Promise 5";
        told(part, "Replaces the hunt by that of the text; there are no teams then.");
        String[] before = {"", "hunt " + TEN_FREE, "hunt " + ZIGZAG + "; 4 times addTeam; " + goTo(3, 10),
            FULL, "ease 1; move 0 9 9; move 1 9 9; save 0", "hunt " + TEN_FREE + "; save 1; ease 9; move 9 9 9"};
        for (String one : before) {
            for (String text : new String[] {"H/12*/34!a", CLOSING, ZIGZAG, TEN_FREE}) {
                leaveTheSame(one + "; hunt " + text, "hunt " + text);
            }
        }
        run(FULL + "text H/98!*/76!a; load = 2; about 1 = 0; team 0 0 ! INDEX; place 0 0 = 9; place 0 1 = 8; "
                + "place 0 3 = 0; place 1 3 = 1; place 2 0 ! INDEX; addTeam = 0; open 0 = 2");
        told(part, "Keeps the text.");
        run("text H/00*/00*; load = 2; errorPosition = NONE; load = 2; clearText = 9");
        run("text " + LONGEST + "; load = 2; append 97 ! STATE; clearText = 120");
        told(part, "Returns the number of places.");
        for (int n = 2; n <= 10; n++) {
            run("text H" + "/99*".repeat(n) + "; load = " + n + "; about 0 = " + n);
        }
    }

    private static void loadForgets() {
        String part = "Promise 5";
        told(part, "Forgets all remembered states and empties both save slots.");
        run(FULL + "text H/00*/00*; load = 2; undo ! STATE; restore 0 ! STATE; restore 1 ! STATE; addTeam = 0; undo = 0"
                + "; undo ! STATE; save 1 = 0; restore 0 ! STATE; restore 1 = 0");
        run("text H/00*/00*; load = 2; addTeam; load = 2; undo ! STATE; save 0 = 0; load = 2; restore 0 ! STATE"
                + "; restore 1 ! STATE; save 1 = 0; load = 2; restore 0 ! STATE; restore 1 ! STATE");
    }

    private static void loadRefuses() {
        String part = "Promise 5";
        told(part, "Throws IllegalStateException if the text is not a hunt");
        String[] noHunts = {"H", "H/00*", "H/00*/00", "H/00*/00a.", "H/00*/00(a", "H/00*/00b", "H/00*/00*x",
            TEN_FREE + "/00*", "h/00*/00*"};
        for (String text : noHunts) {
            run("text " + text + "; load ! STATE; about 0 = 2; clearText = " + text.length());
            run("hunt H/12*/34a/56b; addTeam; go 0 0; save 1; ease 2; text " + text
                    + "; load ! STATE; about 0 = 3; team 0 2 = 4; place 2 3 = 4; place 2 0 = 5; undo = 2; restore 1 = 1");
        }
        run("load ! STATE; about 0 = 2");
        run(FULL + "load ! STATE; restore 1 = 4; clearText = 120; load ! STATE; restore 0 = 4");
    }

    private static void aboutPlacesAndTeams() {
        String part = "Promise 6";
        namesNoBoundary(part, "Returns a number.");
        namesNoBoundary(part, "Returns that number.");
        namesNoBoundary(part, "what:");
        told(part, "0: the number of places;");
        run("about 0 = 2; hunt " + TEN_FREE + "; about 0 = 10; hunt H/00*/00*; about 0 = 2");
        told(part, "1: of teams;");
        run("about 1 = 0; addTeam; about 1 = 1; 3 times addTeam; about 1 = 4; addTeam ! STATE; about 1 = 4; "
                + "4 times giveUp 0; about 1 = 0");
        told(part, "2: of teams that have visited the chest;");
        run("hunt H/00*/00*/00*; about 2 = 0; 4 times addTeam; go 0 0; go 0 1; about 2 = 0; go 0 2; about 2 = 1; "
                + "go 1 2; go 2 2; go 3 1; about 2 = 3; go 3 2; about 2 = 4; giveUp 0; about 2 = 3; 3 times giveUp 0; "
                + "about 2 = 0");
        run("hunt " + ZIGZAG + "; addTeam; " + goTo(0, 9) + "about 2 = 0; go 0 9; about 2 = 1");
    }

    private static void aboutTheRest() {
        String part = "Promise 6";
        told(part, "3: the greatest score of a team (0 without teams);");
        run("about 3 = 0; addTeam; about 3 = 0; go 0 0; about 3 = 0; go 0 1; about 3 = 198; giveUp 0; about 3 = 0");
        run("hunt H/00*/00*; 4 times addTeam; hint 0; go 0 1; hint 1; hint 1; go 1 1; hint 3; go 3 0; go 3 1; "
                + "about 3 = 189; go 2 1; about 3 = 199; giveUp 2; about 3 = 189; giveUp 0; about 3 = 188");
        run("hunt H/00*/99*; addTeam; 30 times hint 0; go 0 1; about 3 = 0");
        told(part, "4: the number of places that some team has visited;");
        run("hunt " + TEN_FREE + "; about 4 = 0; 4 times addTeam; about 4 = 0; go 0 8; about 4 = 1; go 1 8; about 4 = 1; "
                + "go 1 9; about 4 = 2; " + goTo(3, 8) + "about 4 = 10; go 3 8; go 3 9; about 4 = 10; "
                + "giveUp 3; about 4 = 2; giveUp 1; about 4 = 1; giveUp 0; about 4 = 0; giveUp 0; about 4 = 0");
        told(part, "5: of hints of all teams");
        run("about 5 = 0; 4 times addTeam; about 5 = 0; 3 times hint 0; 2 times hint 3; about 5 = 5; hint 1; about 5 = 6; "
                + "giveUp 0; about 5 = 3; 3 times giveUp 0; about 5 = 0");
        run("addTeam; 500 times hint 0; about 5 = 500");
        told(part, "Throws IllegalArgumentException if what is not 0 to 5");
        each("", "about #", "ARGUMENT", -1, 6, 7, -9, 256, 65536, MOST, LEAST);
        each("hunt " + TEN_FREE + "; 4 times addTeam", "about #", "ARGUMENT", -1, 6, 10, MOST, LEAST);
        each("", "about #", "0", 1, 2, 3, 4, 5);
    }

    private static void place() {
        String part = "Promise 7";
        namesNoBoundary(part, "Returns a number of a place.");
        namesNoBoundary(part, "Returns that number.");
        namesNoBoundary(part, "p: place");
        namesNoBoundary(part, "what:");
        told(part, "0: x; 1: y;");
        run("hunt H/09*/90*/55*; place 0 0 = 0; place 0 1 = 9; place 1 0 = 9; place 1 1 = 0; place 2 0 = 5; place 2 1 = 5");
        run("hunt " + NINE_FREE + "/98*; place 9 0 = 9; place 9 1 = 8; place 8 0 = 0");
        told(part, "2: the number of teams that have visited it;");
        run("hunt H/00*/00*/00*; place 0 2 = 0; place 2 2 = 0; 4 times addTeam; place 0 2 = 0; go 3 0; place 0 2 = 1; "
                + "go 0 0; go 1 0; go 2 0; place 0 2 = 4; place 1 2 = 0; go 0 2; go 3 2; place 2 2 = 2; place 0 2 = 4; "
                + "giveUp 3; place 2 2 = 1; place 0 2 = 3");
        told(part, "3: for how many of the sets of places without it its condition holds");
        run("place 0 3 = 2; place 1 3 = 1");
        run("hunt " + NINE_FREE.replaceFirst("00[*]", "00!*") + "/00a.b.c.d.e.f.g.h.i; place 0 3 = 0; place 1 3 = 512; "
                + "place 8 3 = 512; place 9 3 = 1");
        run("hunt " + NINE_FREE + "/001[a,b,c,d,e,f,g,h,i]; place 9 3 = 511");
        run("hunt H/00*/00!*/00!a/00a.b; place 0 3 = 8; place 1 3 = 0; place 2 3 = 4; place 3 3 = 2; ease 1; place 1 3 = 8; "
                + "place 3 3 = 2");
        noSuchPlace(part, "place # 0");
        placesRefused("", "place # 3");
        told(part, "Throws IllegalArgumentException if what is not 0 to 3");
        each("", "place 0 #", "ARGUMENT", -1, 4, 5, -9, 256, 65536, MOST, LEAST);
        each("hunt " + TEN_FREE, "place 9 #", "ARGUMENT", -1, 4, 9, MOST, LEAST);
        each("", "place 2 #", "INDEX", 0, 3, 4, -1);
        each("", "place 0 #", "0", 0, 1, 2);
    }

    private static void holds() {
        String part = "Promise 8";
        namesNoBoundary(part, "Checks a condition.");
        namesNoBoundary(part, "p: place");
        told(part, "set: places that were visited, bit q set if the place q was");
        for (int q = 0; q < 9; q++) {
            String condition = "/00" + (char) ('a' + q);
            run("hunt " + NINE_FREE + condition + "; holds 9 " + (1 << q) + " = true; holds 9 " + (511 ^ 1 << q)
                    + " = false; holds 9 " + (1023 ^ 1 << q) + " = false");
        }
        told(part, "Returns whether the condition of place p holds for them.");
        run("holds 0 0 = true; holds 0 3 = true; holds 1 0 = false; holds 1 1 = true; holds 1 2 = false; holds 1 3 = true");
        run("hunt H/00*/00*/00!a.!b/00c+a; holds 2 0 = true; holds 2 12 = true; holds 2 1 = false; holds 2 2 = false; "
                + "holds 2 15 = false; holds 3 0 = false; holds 3 10 = false; holds 3 4 = true; holds 3 15 = true; "
                + "ease 2; holds 2 15 = true; holds 3 10 = false");
        noSuchPlace(part, "holds # 0");
        told(part, "Throws IllegalArgumentException if set is negative or has a bit of no place");
        each("", "holds 0 #", "ARGUMENT", -1, 4, 5, 7, 8, 1024, 1 << 30, MOST, LEAST, LEAST + 1, -4);
        each("hunt " + TEN_FREE, "holds 9 #", "ARGUMENT", -1, 1024, 1025, 2048, 1 << 16, MOST, LEAST, LEAST + 1);
        each("hunt " + NINE_FREE, "holds 0 #", "ARGUMENT", -1, 512, 513, 1024);
        each("hunt " + TEN_FREE + "; hunt H/00*/00*/00*", "holds 0 #", "ARGUMENT", 8, 9, 512);
        each("", "holds 0 #", "true", 0, 1, 2, 3);
        each("hunt " + TEN_FREE, "holds 9 #", "true", 0, 1, 512, 1022, 1023);
        each("hunt " + NINE_FREE, "holds 0 #", "true", 0, 256, 511);
        each("", "holds 2 #", "INDEX", 0, 4, -1);
    }

    private static void team() {
        String part = "Promise 9";
        namesNoBoundary(part, "Returns a number of a team.");
        namesNoBoundary(part, "Returns that number.");
        namesNoBoundary(part, "what:");
        String all = "hunt " + ZIGZAG + "; 4 times addTeam; " + goTo(3, 9);
        told(part, "0: the places that it has visited, as bits;");
        run(all + "team 0 0 = 0; team 3 0 = 511; go 3 9; team 3 0 = 1023; team 2 0 = 0");
        run("hunt " + TEN_FREE + "; addTeam; go 0 9; team 0 0 = 512");
        told(part, "1: how many these are;");
        run(all + "team 0 1 = 0; team 3 1 = 9; go 3 9; team 3 1 = 10; go 0 0; team 0 1 = 1");
        told(part, "2: its minutes;");
        run(all + "team 0 2 = 0; team 3 2 = 171; go 3 9; team 3 2 = 190");
        run("addTeam; team 0 2 = 0; go 0 0; team 0 2 = 1");
        told(part, "3: its hints;");
        run("2 times addTeam; team 1 3 = 0; hint 1; team 1 3 = 1; 400 times hint 1; team 1 3 = 401; team 0 3 = 0");
        told(part, "4: its score;");
        run(all + "hint 3; team 3 4 = 0; go 3 9; team 3 4 = 0; team 0 4 = 0");
        run(all + "go 3 9; team 3 4 = 10");
        run("hunt H/00*/00*; addTeam; team 0 4 = 0; go 0 1; team 0 4 = 199");
        told(part, "5: the last place that it visited, NONE if there is none");
        run(all + "team 0 5 = NONE; team 3 5 = 8; go 3 9; team 3 5 = 9; go 0 0; team 0 5 = 0; undo; team 0 5 = NONE");
        noSuchTeam(part, "team # 0");
        told(part, "Throws IllegalArgumentException if what is not 0 to 5");
        each("addTeam", "team 0 #", "ARGUMENT", -1, 6, 7, -9, 256, 65536, MOST, LEAST);
        each("4 times addTeam", "team 3 #", "ARGUMENT", -1, 6, MOST, LEAST);
        each("addTeam", "team 1 #", "INDEX", 0, 6, -1);
        each("addTeam", "team 0 #", "0", 0, 1, 2, 3, 4);
    }

    private static void trail() {
        String part = "Promise 10";
        namesNoBoundary(part, "Returns a place that a team visited.");
        told(part, "i: 0 for the first one that it visited, 1 for the second one, and so on");
        StringBuilder lines = new StringBuilder("hunt " + TEN_FREE + "; 4 times addTeam; ");
        int[] order = {8, 0, 7, 1, 6, 2, 5, 3, 4, 9};
        for (int p : order) {
            lines.append("go 3 " + p + "; ");
        }
        for (int i = 0; i < 10; i++) {
            lines.append("trail 3 " + i + " = " + order[i] + "; ");
        }
        run(lines.toString());
        told(part, "Returns the place; NONE if it has not visited so many.");
        run("addTeam; trail 0 0 = NONE; go 0 0; trail 0 0 = 0; trail 0 1 = NONE; go 0 1; trail 0 1 = 1; trail 0 2 = NONE");
        run(lines + "trail 3 10 = NONE; trail 3 11 = NONE; trail 2 0 = NONE; trail 2 9 = NONE");
        each("addTeam; go 0 0", "trail 0 #", "-9", 1, 2, 9, 10, 32, 256, 65536, MOST - 1, MOST);
        each("2 times addTeam; go 1 0; go 1 1", "trail 0 #", "-9", 0, 1, 10, 11, MOST);
        run("addTeam; go 0 0; undo; trail 0 0 = NONE; go 0 0; giveUp 0; addTeam; trail 0 0 = NONE");
        noSuchTeam(part, "trail # 0");
        told(part, "Throws IllegalArgumentException if i is negative");
        each("addTeam", "trail 0 #", "ARGUMENT", -1, -2, -9, -10, -256, LEAST + 1, LEAST);
        each("4 times addTeam; go 3 0", "trail 3 #", "ARGUMENT", -1, -10, LEAST);
        each("addTeam", "trail 1 #", "INDEX", -1, 0, LEAST);
        each("addTeam", "trail 0 #", "-9", 0);
    }

    private static void open() {
        String part = "Promise 11";
        namesNoBoundary(part, "Tells where a team can go.");
        told(part, "Returns the places that it can visit now, as bits.");
        run("hunt " + TEN_FREE + "; 2 times addTeam; open 0 = 1023; go 0 0; open 0 = 1022; go 0 9; open 0 = 0; open 1 = 1023");
        run("hunt " + ZIGZAG + "; addTeam; open 0 = 1; " + goTo(0, 9) + "open 0 = 512; go 0 9; open 0 = 0");
        run("hunt H/00!*/00!*; addTeam; open 0 = 0; ease 1; open 0 = 2");
        run("hunt " + CLOSING + "; addTeam; open 0 = 3; go 0 0; open 0 = 2; go 0 1; open 0 = 0");
        noSuchTeam(part, "open #");
    }

    private static void addTeam() {
        String part = "Promise 12";
        told(part, "Adds a team.");
        run("hunt H/11*/22*; addTeam; about 1 = 1; team 0 0 = 0; team 0 1 = 0; team 0 2 = 0; team 0 3 = 0; team 0 4 = 0; "
                + "team 0 5 = NONE; hint 0; go 0 1; giveUp 0; addTeam; team 0 0 = 0; team 0 1 = 0; team 0 2 = 0; "
                + "team 0 3 = 0; team 0 5 = NONE; trail 0 0 = NONE; go 0 0 = 3");
        told(part, "Returns its number.");
        run("addTeam = 0; addTeam = 1; addTeam = 2; addTeam = 3; giveUp 0; addTeam = 3; 4 times giveUp 0; addTeam = 0; "
                + "undo; addTeam = 0");
        told(part, "Throws IllegalStateException if there are 4 teams");
        run("4 times addTeam; addTeam ! STATE; addTeam ! STATE; about 1 = 4; undo = 3; addTeam = 3; addTeam ! STATE; "
                + "giveUp 3 = 3; addTeam = 3; addTeam ! STATE");
        run("4 times addTeam; save 0; giveUp 1; restore 0 = 4; addTeam ! STATE; undo ! STATE");
    }

    private static void go() {
        String part = "Promise 13";
        told(part, "A team visits a place.");
        run("hunt " + TEN_FREE + "; 4 times addTeam; go 3 0; team 3 0 = 1; team 3 5 = 0; team 2 0 = 0; go 3 9; team 3 0 = 513; "
                + "trail 3 1 = 9; go 0 9; team 0 0 = 512; team 0 1 = 1; place 9 2 = 2");
        told(part, "Returns the minutes of the team then.");
        run("addTeam; go 0 0 = 1; go 0 1 = 2");
        run("hunt " + ZIGZAG + "; addTeam; go 0 0 = 19; go 0 1 = 38; go 0 2 = 57; go 0 3 = 76; go 0 4 = 95; go 0 5 = 114; "
                + "go 0 6 = 133; go 0 7 = 152; go 0 8 = 171; go 0 9 = 190");
        run("hunt H/99*/99*/90*; 2 times addTeam; go 1 2 = 10; go 0 0 = 19; go 0 1 = 20; go 0 2 = 30");
    }

    private static void goRefuses() {
        String part = "Promise 13";
        namesNoBoundary(part, "t: team");
        namesNoBoundary(part, "p: place");
        told(part, "Throws IndexOutOfBoundsException if there is no such team or place");
        teamsRefused("go # 0");
        placesRefused("addTeam", "go 0 #");
        each("addTeam", "go 0 #", "INDEX", -1, 2, 3, 10, 32, 33, MOST, LEAST);
        each("hunt " + TEN_FREE + "; addTeam", "go 0 #", "INDEX", -1, 10, 11, 32, 41, MOST, LEAST);
        each("addTeam; go 0 0; go 0 1", "go 0 #", "INDEX", -1, 2, 3);
        each("addTeam", "go 1 #", "INDEX", -1, 0, 1, 2);
        run("hunt " + TEN_FREE + "; 4 times addTeam; go 3 8 = 1; go 3 9 = 2; go 0 9 = 1");
        told(part, "Throws IllegalStateException if the team cannot visit it");
        run("addTeam; go 0 1 ! STATE; go 0 0 = 1; go 0 0 ! STATE; go 0 1 = 2; go 0 1 ! STATE; go 0 0 ! STATE");
        run("hunt H/00*/00!a/00*; 2 times addTeam; go 0 0; go 0 1 ! STATE; go 1 1 = 1; go 0 2 = 2; go 0 1 ! STATE; "
                + "go 0 2 ! STATE; ease 1; go 0 1 ! STATE; go 1 2; go 1 0 ! STATE");
        run("hunt " + ZIGZAG + "; addTeam; go 0 9 ! STATE; go 0 1 ! STATE; " + goTo(0, 8)
                + "go 0 9 ! STATE; go 0 7 ! STATE; go 0 8 = 171; go 0 8 ! STATE; go 0 9 = 190; go 0 9 ! STATE; go 0 0 ! STATE");
    }

    private static void hint() {
        String part = "Promise 14";
        told(part, "Gives a team a hint (its hints increase by 1).");
        run("4 times addTeam; hint 3; team 3 3 = 1; hint 3; team 3 3 = 2; team 2 3 = 0; team 0 3 = 0; hint 0; team 0 3 = 1; "
                + "team 3 2 = 0; team 3 0 = 0");
        told(part, "Returns the smallest place that is safe for it.");
        run("addTeam; hint 0 = 0; go 0 0; hint 0 = 1");
        run("hunt " + ZIGZAG + "; addTeam; hint 0 = 0; " + goTo(0, 8) + "hint 0 = 8; go 0 8; hint 0 = 9");
        run("hunt " + CLOSING + "; addTeam; open 0 = 3; hint 0 = 1; go 0 1; open 0 = 5; hint 0 = 2; go 0 2; hint 0 = 0");
        run("hunt " + TEN_FREE + "; addTeam; hint 0 = 0; go 0 0; hint 0 = 1");
        noSuchTeam(part, "hint #");
        told(part, "Throws IllegalStateException if no place is safe for it");
        run("addTeam; go 0 0; go 0 1; hint 0 ! STATE; team 0 3 = 0");
        run("hunt " + CLOSING + "; addTeam; go 0 0; open 0 = 2; hint 0 ! STATE; go 0 1; open 0 = 0; hint 0 ! STATE; "
                + "team 0 3 = 0; ease 3; hint 0 = 3");
        run("hunt H/00!*/00!*; addTeam; hint 0 ! STATE; ease 1; hint 0 = 1");
    }

    private static void giveUp() {
        String part = "Promise 15";
        told(part, "A team gives up; the teams behind it get numbers that are smaller by 1.");
        String four = "hunt H/11*/22*/33*/44*; 4 times addTeam; go 0 0; go 1 1; go 1 0; hint 1; go 2 2; go 3 3; hint 0; hint 0; ";
        run(four + "giveUp 0; team 0 0 = 3; team 0 2 = 8; team 0 3 = 1; trail 0 0 = 1; trail 0 1 = 0; team 1 0 = 4; "
                + "team 2 0 = 8; team 2 4 = 191; team 3 0 ! INDEX");
        run(four + "giveUp 1; team 0 0 = 1; team 0 3 = 2; team 1 0 = 4; team 1 3 = 0; trail 1 0 = 2; trail 1 1 = NONE; "
                + "team 2 0 = 8; team 3 0 ! INDEX");
        run(four + "giveUp 2; team 1 0 = 3; team 2 0 = 8; trail 2 0 = 3; team 3 0 ! INDEX");
        run(four + "giveUp 3; team 0 0 = 1; team 1 0 = 3; team 2 0 = 4; team 3 0 ! INDEX");
        told(part, "Returns the number of teams then.");
        run("4 times addTeam; giveUp 3 = 3; giveUp 0 = 2; giveUp 1 = 1; giveUp 0 = 0; giveUp 0 ! INDEX");
        noSuchTeam(part, "giveUp #");
    }

    private static void move() {
        String part = "Promise 16";
        namesNoBoundary(part, "p: place");
        told(part, "Moves a place.");
        run("hunt " + TEN_FREE + "; move 9 9 8; place 9 0 = 9; place 9 1 = 8; place 8 0 = 0; move 0 0 9; place 0 0 = 0; "
                + "place 0 1 = 9; place 1 1 = 0; place 9 0 = 9");
        told(part, "(The minutes that teams have stay.)");
        run("hunt H/99*/99*; addTeam; go 0 0 = 19; move 0 0 0; team 0 2 = 19; move 1 0 0; team 0 2 = 19; go 0 1 = 20; "
                + "move 1 9 9; team 0 2 = 20; team 0 4 = 180");
        told(part, "x: 0 to 9");
        run("move 0 0 5; place 0 0 = 0; move 0 9 5; place 0 0 = 9; place 0 1 = 5");
        told(part, "y: 0 to 9");
        run("move 0 5 0; place 0 1 = 0; move 0 5 9; place 0 1 = 9; place 0 0 = 5");
        told(part, "Returns 10 * x + y of its previous coordinates.");
        run("move 1 0 9 = 0; move 1 9 0 = 9; move 1 9 9 = 90; move 1 9 9 = 99; move 1 0 0 = 99; move 1 0 0 = 0");
    }

    private static void moveRefuses() {
        String part = "Promise 16";
        noSuchPlace(part, "move # 9 9");
        each("", "move 2 # 0", "INDEX", -1, 0, 9, 10);
        each("", "move -1 0 #", "INDEX", -1, 0, 9, 10);
        told(part, "Throws IllegalArgumentException if x or y is out of range");
        each("", "move 0 # 0", "ARGUMENT", -1, 10, 11, 19, 256, 265, 65536, MOST, LEAST);
        each("", "move 0 0 #", "ARGUMENT", -1, 10, 11, 19, 256, 265, 65536, MOST, LEAST);
        each("hunt " + ZIGZAG, "move 9 # 9", "ARGUMENT", -1, 10, MOST, LEAST);
        each("hunt " + ZIGZAG, "move 9 9 #", "ARGUMENT", -1, 10, MOST, LEAST);
        each("", "move 0 # #", "ARGUMENT", -1, 10, MOST, LEAST);
    }

    private static void ease() {
        String part = "Promise 17";
        namesNoBoundary(part, "p: place");
        told(part, "Makes the riddle of a place easier: its condition always holds then.");
        run("hunt H/00!*/00!*/00!*; ease 1; holds 1 0 = true; holds 1 7 = true; holds 0 0 = false; holds 2 7 = false; addTeam; "
                + "open 0 = 2; ease 0; open 0 = 3; ease 2; open 0 = 7; holds 0 7 = true; holds 2 0 = true; place 2 3 = 4");
        run("hunt " + ZIGZAG + "; ease 9; holds 9 0 = true; holds 9 511 = true; holds 8 0 = false; place 9 3 = 512; "
                + "addTeam; go 0 9 = 1; undo; undo; undo; holds 9 0 = false");
        told(part, "Returns for how many of the sets of places without it its condition held before.");
        run("ease 0 = 2; ease 1 = 1; ease 1 = 2; ease 0 = 2");
        run("hunt " + NINE_FREE.replaceFirst("00[*]", "00!*") + "/00a.b.c.d.e.f.g.h.i; ease 0 = 0; ease 0 = 512; "
                + "ease 8 = 512; ease 9 = 1; ease 9 = 512");
        run("hunt H/00*/00*/00a.b/00c.!c; ease 2 = 2; ease 3 = 0; ease 3 = 8; undo; undo; ease 3 = 0");
        noSuchPlace(part, "ease #");
    }

    private static void undo() {
        String part = "Promise 18";
        told(part, "Takes back the last action that is remembered.");
        run("addTeam; move 0 9 9; hint 0; undo; team 0 3 = 0; place 0 0 = 9; undo; place 0 0 = 0; about 1 = 1; undo; about 1 = 0");
        run("4 times addTeam; go 0 0; go 1 0; go 1 1; giveUp 0; undo; about 1 = 4; team 0 0 = 1; team 1 0 = 3; trail 1 1 = 1; "
                + "team 1 2 = 2; team 3 0 = 0");
        run("ease 1; undo; holds 1 0 = false; ease 1; ease 1; undo; holds 1 0 = true; undo; holds 1 0 = false");
        run("20 times move 0 9 9; 13 times undo; undo = 0; place 0 0 = 9; undo ! STATE; place 0 0 = 9");
        for (int t = 0; t < 4; t++) {
            takesBack(WALKED, "giveUp " + t);
        }
        takesBack(WALKED, "go 2 9");
        leaveTheSame(WALKED + "giveUp 0; giveUp 0; giveUp 0; 3 times addTeam; go 3 5; go 3 4; go 2 3; 9 times undo", WALKED);
        told(part, "Returns how many states are still remembered.");
        run("addTeam; undo = 0; addTeam; addTeam; undo = 1; addTeam; undo = 1; undo = 0");
        StringBuilder lines = new StringBuilder("14 times ease 0; ");
        for (int left = 13; left >= 0; left--) {
            lines.append("undo = " + left + "; ");
        }
        run(lines + "undo ! STATE");
        run("15 times ease 0; undo = 13; ease 0; undo = 13; ease 0; ease 0; undo = 13; undo = 12");
    }

    private static void undoRefuses() {
        String part = "Promise 18";
        told(part, "Throws IllegalStateException if none is remembered");
        run("undo ! STATE; addTeam; undo = 0; undo ! STATE; undo ! STATE");
        run("14 times ease 0; 14 times undo; undo ! STATE; ease 0; undo = 0; undo ! STATE");
        run("17 times ease 0; 14 times undo; undo ! STATE; holds 0 0 = true");
        run("hunt H/00*/00*; undo ! STATE; addTeam; load; undo ! STATE");
        run("save 0; addTeam; restore 0; undo ! STATE; save 1; undo ! STATE");
        run("go 0 0 ! INDEX; move 0 10 0 ! ARGUMENT; undo ! STATE");
        run("addTeam; undo; shortest 0 0 ! INDEX; deadEnds = 0; runScript 1 3000 = NONE; undo ! STATE");
    }
}
