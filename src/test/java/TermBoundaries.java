import java.util.Set;

/** The boundary cases that the document's part "Terms" names, sentence by sentence. */
final class TermBoundaries extends Boundary {
    private static final String PLACES = "PLACES";
    private static final String CONDITIONS = "CONDITIONS";
    private static final String TEAMS = "TEAMS";
    private static final String TEXT = "TEXT";
    private static final String ACTIONS = "ACTIONS AND UNDO";
    private static final String EXCEPTIONS = "EXCEPTIONS";

    static void tellAll() {
        whatItIs();
        howManyPlaces();
        letters();
        theLastPlace();
        coordinates();
        camp();
        newObject();
        conditions();
        partsAndGroups();
        counts();
        teams();
        visits();
        minutes();
        scores();
        reaching();
        safePlaces();
        bufferLength();
        hunts();
        placesInText();
        groupsInText();
        partsInText();
        listsInText();
        blanks();
        leftToRight();
        errorPositions();
        state();
        actions();
        remembered();
        forgotten();
        noActions();
        indexException();
        argumentException();
        stateException();
        firstNamed();
        changesNothing();
        none();
        sections();
    }

    private static void whatItIs() {
        namesNoBoundary("What it is", "A treasure hunt: places with riddles that can be opened by what a team has visited"
                + " before, some of them no longer when it has been somewhere else, teams that walk from place to"
                + " place, hints that cost points, and a chest at the last place.");
        told("What it is",
                "An object is used for at most 512 calls after it has been made; what later calls answer is free.");
        run("""
                addTeam = 0
                510 times hint 0 = 0
                team 0 3 = 510
                """);
        run("""
                511 times move 0 9 9
                undo = 13
                """);
        run("""
                120 times append 72
                391 times append 72 ! STATE
                clearText = 120
                """);
        namesNoBoundary("Terms", "It tells where a team can go, by which ways it comes to the chest, in how many orders,"
                + " and which visits would be dead ends; it finds all dead ends of the hunt and the riddle that should"
                + " be made easier. Changes can be undone.");
    }

    // PLACES

    private static void howManyPlaces() {
        told(PLACES, "There are 2 to 10 places, numbered from 0;");
        run("""
                text H/55*
                load ! STATE
                about 0 = 2
                text H/55*/66*
                load = 2
                about 0 = 2
                place 0 0 = 5
                place 1 0 = 6
                place 2 0 ! INDEX
                place -1 0 ! INDEX
                """);
        run("text " + NINE_FREE + """

                load = 9
                place 8 0 = 0
                place 9 0 ! INDEX
                """);
        run("text " + NINE_FREE + "/78*" + """

                load = 10
                about 0 = 10
                place 9 0 = 7
                place 9 1 = 8
                place 10 0 ! INDEX
                place -1 0 ! INDEX
                """);
        run("text " + TEN_FREE + "/00*" + """

                load ! STATE
                about 0 = 2
                """);
    }

    private static void letters() {
        told(PLACES, "place 0 is also called a, place 1 b, and so on.");
        for (int q = 0; q < 9; q++) {
            String last = NINE_FREE + "/00" + (char) ('a' + q);
            run("hunt " + last
                    + "; holds 9 0 = false; holds 9 " + (1 << q) + " = true"
                    + "; holds 9 " + (1023 & ~(1 << q)) + " = false; holds 9 1023 = true");
        }
        run("text " + NINE_FREE + "/00j" + """

                errorPosition = 40
                load ! STATE
                """);
    }

    private static void theLastPlace() {
        told(PLACES, "The last place is the chest.");
        run("""
                addTeam = 0
                go 0 0 = 1
                about 2 = 0
                open 0 = 2
                go 0 1 = 2
                about 2 = 1
                open 0 = 0
                """);
        run("hunt " + TEN_FREE + """

                addTeam = 0
                go 0 8 = 1
                about 2 = 0
                open 0 = 767
                go 0 9 = 2
                about 2 = 1
                open 0 = 0
                """);
        run("""
                hunt H/00*/00*/00*
                addTeam = 0
                go 0 1 = 1
                about 2 = 0
                go 0 2 = 2
                about 2 = 1
                """);
    }

    private static void coordinates() {
        told(PLACES, "A place has coordinates x and y, 0 to 9, and a condition.");
        run("""
                hunt H/09*/90*
                place 0 0 = 0
                place 0 1 = 9
                place 1 0 = 9
                place 1 1 = 0
                move 0 9 0 = 9
                move 0 0 9 = 90
                move 0 -1 0 ! ARGUMENT
                move 0 0 -1 ! ARGUMENT
                move 0 10 0 ! ARGUMENT
                move 0 0 10 ! ARGUMENT
                place 0 0 = 0
                place 0 1 = 9
                """);
        run("""
                text H/90!*/09!*
                load = 2
                place 0 3 = 0
                place 1 3 = 0
                """);
    }

    private static void camp() {
        told(PLACES, "All teams begin in the camp, which has the coordinates 0 and 0 and is no place.");
        run("""
                hunt H/00*/99*/90*/09*/00!*
                4 times addTeam
                team 0 0 = 0
                team 0 1 = 0
                team 0 2 = 0
                team 0 5 = NONE
                trail 0 0 = NONE
                about 4 = 0
                place 0 2 = 0
                place -9 0 ! INDEX
                place 10 0 ! INDEX
                go 0 0 = 1
                go 1 1 = 19
                go 2 2 = 10
                go 3 3 = 10
                """);
        run("""
                hunt H/00*/99*
                move 0 9 9 = 0
                addTeam = 0
                go 0 1 = 19
                """);
    }

    private static void newObject() {
        told(PLACES, "In a new object there are two places, both with the coordinates 0 and 0: the condition of place 0"
                + " always holds; that of place 1, the chest, holds if place 0 was visited.");
        run("""
                about 0 = 2
                place 0 0 = 0
                place 0 1 = 0
                place 1 0 = 0
                place 1 1 = 0
                place 2 0 ! INDEX
                holds 0 0 = true
                holds 0 1 = true
                holds 0 2 = true
                holds 0 3 = true
                holds 1 0 = false
                holds 1 1 = true
                holds 1 2 = false
                holds 1 3 = true
                addTeam = 0
                open 0 = 1
                go 0 1 ! STATE
                go 0 0 = 1
                open 0 = 2
                go 0 1 = 2
                about 2 = 1
                """);
    }

    // CONDITIONS

    private static void conditions() {
        told(CONDITIONS, "Whether a condition holds depends on the set of places that a team has visited.");
        run("""
                hunt H/00*/00*/00a.!b/00a.b/00!*
                3 times addTeam
                open 0 = 3
                go 0 0
                go 0 1
                go 1 1
                go 1 0
                go 2 0
                open 0 = 8
                open 1 = 8
                open 2 = 6
                holds 2 0 = false
                holds 2 1 = true
                holds 2 3 = false
                holds 3 31 = true
                """);
        told(CONDITIONS, "* always holds.");
        run("hunt " + TEN_FREE + """

                holds 0 0 = true
                holds 0 1023 = true
                holds 9 0 = true
                holds 9 511 = true
                place 0 3 = 512
                """);
        told(CONDITIONS, "A letter holds if this place was visited.");
        run("""
                hunt H/00*/00a/00*/00c
                holds 1 0 = false
                holds 1 1 = true
                holds 1 14 = false
                holds 1 15 = true
                holds 3 0 = false
                holds 3 4 = true
                holds 3 11 = false
                holds 3 15 = true
                """);
        told(CONDITIONS, "! and a part holds if the part does not hold.");
        run("""
                hunt H/00!*/00!a/00!!a/00!(a.b)/00!2[a,b]/00!a.b/00!!!a
                holds 0 0 = false
                holds 0 127 = false
                holds 1 0 = true
                holds 1 1 = false
                holds 2 0 = false
                holds 2 1 = true
                holds 3 2 = true
                holds 3 3 = false
                holds 4 1 = true
                holds 4 3 = false
                holds 5 0 = false
                holds 5 2 = true
                holds 5 3 = false
                holds 6 0 = true
                holds 6 1 = false
                """);
        run("hunt H/00*/00" + "!".repeat(111) + """
                a
                holds 1 0 = true
                holds 1 1 = false
                """);
    }

    private static void partsAndGroups() {
        told(CONDITIONS, "Parts with full stops between them hold together if all of them hold.");
        run("""
                hunt H/00*/00*/00*/00a.b.c/00*.a/00a.a.a.!a
                holds 3 0 = false
                holds 3 3 = false
                holds 3 5 = false
                holds 3 6 = false
                holds 3 7 = true
                holds 4 0 = false
                holds 4 1 = true
                holds 5 0 = false
                holds 5 63 = false
                """);
        told(CONDITIONS, "Such groups (one part is a group, too) with the sign + between them hold if at least one of the"
                + " groups holds.");
        run("""
                hunt H/00*/00*/00*/00a+b+c/00a+b.c/00a.b+c/00!a+a/00!*+!*/00*
                holds 3 0 = false
                holds 3 1 = true
                holds 3 2 = true
                holds 3 4 = true
                holds 3 7 = true
                holds 4 1 = true
                holds 4 2 = false
                holds 4 4 = false
                holds 4 6 = true
                holds 5 1 = false
                holds 5 2 = false
                holds 5 3 = true
                holds 5 4 = true
                holds 6 0 = true
                holds 6 1 = true
                holds 7 0 = false
                holds 7 511 = false
                """);
        told(CONDITIONS, "A condition in parentheses is a part.");
        run("""
                hunt H/00(*)/00((a))/00(a+b)/00(a+b).c/00c.(a+b)/00!(a+b)/00(a.b)+(c)
                holds 0 0 = true
                holds 1 0 = false
                holds 1 1 = true
                holds 2 0 = false
                holds 2 2 = true
                holds 3 3 = false
                holds 3 4 = false
                holds 3 5 = true
                holds 4 3 = false
                holds 4 6 = true
                holds 5 0 = true
                holds 5 1 = false
                holds 6 3 = true
                holds 6 4 = true
                holds 6 1 = false
                """);
    }

    private static void counts() {
        told(CONDITIONS, "A digit n from 1 to 4, followed by one or more conditions in square brackets with commas between"
                + " them, is a part that holds if at least n of these conditions hold.");
        int[] sets = {0, 16, 20, 21, 29, 31};
        for (int n = 1; n <= 4; n++) {
            StringBuilder lines = new StringBuilder("hunt H/00*/00*/00*/00*/00*/00" + n + "[a,b,c,d,e]");
            lines.append("/00!" + n + "[a,b,c,d,e]; ");
            for (int holding = 0; holding <= 5; holding++) {
                lines.append("holds 5 " + sets[holding] + " = " + (holding >= n) + "; ");
                lines.append("holds 6 " + sets[holding] + " = " + (holding < n) + "; ");
            }
            run(lines.toString());
        }
        run("""
                hunt H/00*/001[a]/002[a]/002[a,a]/003[a,*]/004[a,a,a,a+!a]/004[*,*,*]/002[a.b,a+b,!a]
                holds 1 0 = false
                holds 1 1 = true
                holds 2 1 = false
                holds 3 0 = false
                holds 3 1 = true
                holds 4 255 = false
                holds 5 0 = false
                holds 5 1 = true
                holds 6 255 = false
                holds 7 0 = false
                holds 7 1 = false
                holds 7 2 = true
                holds 7 3 = true
                """);
        // Lists as long as the text leaves room for.
        run("hunt H/00*/004[" + "a,".repeat(54) + """
                a]
                holds 1 0 = false
                holds 1 1 = true
                """);
        run("hunt H/00*/004[" + "*,a,*," + "!*,".repeat(33) + """
                a,a]
                holds 1 0 = false
                holds 1 1 = true
                """);
        run("""
                text H/00*/000[a]
                errorPosition = 8
                text H/00*/005[a]
                errorPosition = 8
                text H/00*/001[]
                errorPosition = 10
                text H/00*/001[a,]
                errorPosition = 12
                text H/00*/001[a
                errorPosition = 11
                """);
    }

    // TEAMS

    private static void teams() {
        told(TEAMS, "There are at most 4 teams, numbered from 0 in the order in which they were added.");
        run("""
                team 0 0 ! INDEX
                addTeam = 0
                team 1 0 ! INDEX
                addTeam = 1
                addTeam = 2
                addTeam = 3
                team 3 0 = 0
                team 4 0 ! INDEX
                addTeam ! STATE
                about 1 = 4
                go 1 0 = 1
                giveUp 0 = 3
                team 0 0 = 1
                addTeam = 3
                team 3 0 = 0
                addTeam ! STATE
                """);
        told(TEAMS, "A team has the places that it has visited in their order, minutes, and hints.");
        run("hunt " + TEN_FREE + "; addTeam; hint 0; " + walk(0, 8, 0, 7, 1, 6, 2, 5, 3, 4, 9) + """
                trail 0 0 = 8
                trail 0 1 = 0
                trail 0 2 = 7
                trail 0 3 = 1
                trail 0 4 = 6
                trail 0 5 = 2
                trail 0 6 = 5
                trail 0 7 = 3
                trail 0 8 = 4
                trail 0 9 = 9
                trail 0 10 = NONE
                team 0 0 = 1023
                team 0 2 = 10
                team 0 3 = 1
                """);
        run(WALKED + """
                trail 1 0 = 8
                trail 1 8 = 0
                trail 1 9 = NONE
                trail 2 4 = 0
                trail 2 7 = 7
                trail 2 8 = NONE
                trail 3 0 = 1
                trail 3 9 = 9
                team 0 2 = 25
                team 1 2 = 41
                team 2 2 = 38
                team 0 3 = 0
                team 1 3 = 1
                team 3 3 = 0
                """);
    }

    private static void visits() {
        told(TEAMS, "It can visit a place if it has not visited it and not the chest, and the condition of the place holds"
                + " for the set of places that it has visited before.");
        run("""
                hunt H/00*/00!a/00a/00b+c/00*
                2 times addTeam
                go 0 2 ! STATE
                open 0 = 19
                go 0 0 = 1
                go 0 0 ! STATE
                go 0 1 ! STATE
                open 0 = 20
                go 0 3 ! STATE
                go 0 2 = 2
                go 0 3 = 3
                open 0 = 16
                go 0 4 = 4
                open 0 = 0
                go 0 1 ! STATE
                go 0 4 ! STATE
                go 1 4 = 1
                go 1 0 ! STATE
                go 1 4 ! STATE
                open 1 = 0
                """);
        run("hunt " + TEN_FREE + """

                addTeam
                open 0 = 1023
                go 0 9 = 1
                open 0 = 0
                go 0 8 ! STATE
                go 0 9 ! STATE
                """);
    }

    private static void minutes() {
        told(TEAMS, "To visit a place takes as many minutes as both coordinates of this place and of the place where the"
                + " team is (the last one it visited; the camp, if there is none) differ by, as they are now, together,"
                + " and 1 minute more.");
        run("""
                hunt H/00*/99*/00*/90*/09*/54*/45*/99*
                addTeam
                go 0 0 = 1
                go 0 1 = 20
                go 0 2 = 39
                go 0 3 = 49
                go 0 4 = 68
                go 0 5 = 79
                go 0 6 = 82
                move 6 9 9 = 45
                team 0 2 = 82
                move 7 8 9 = 99
                go 0 7 = 84
                """);
        run("""
                hunt H/99*/99*/00*
                2 times addTeam
                move 0 0 1 = 99
                go 0 0 = 2
                go 1 1 = 19
                move 1 0 0 = 99
                go 1 0 = 21
                team 0 2 = 2
                """);
    }

    private static void scores() {
        told(TEAMS, "The score of a team is 200 - its minutes - 10 * its hints, but at least 0, if it has visited the"
                + " chest; otherwise it is 0.");
        run("""
                hunt H/00*/00*
                2 times addTeam
                team 0 4 = 0
                go 0 0 = 1
                team 0 4 = 0
                go 0 1 = 2
                team 0 4 = 198
                go 1 1 = 1
                team 1 4 = 199
                """);
        // 19 minutes by the straight way, 20 by a.
        String twoTeams = "hunt H/00*/99*; 2 times addTeam; # times hint 0; # times hint 1; go 0 1; go 1 0; go 1 1; ";
        run(twoTeams.replace("#", "17") + "team 0 4 = 11; team 1 4 = 10; about 3 = 11");
        run(twoTeams.replace("#", "18") + "team 0 4 = 1; team 1 4 = 0; about 3 = 1");
        run(twoTeams.replace("#", "19") + "team 0 4 = 0; team 1 4 = 0; about 3 = 0");
        run(twoTeams.replace("#", "60") + "team 0 4 = 0; team 1 4 = 0; about 3 = 0");
        run("hunt " + ZIGZAG + "; addTeam; " + goTo(0, 9) + """
                team 0 2 = 171
                team 0 4 = 0
                go 0 9 = 190
                team 0 4 = 10
                about 3 = 10
                """);
        run("hunt " + ZIGZAG + "; addTeam; hint 0 = 0; " + goTo(0, 10) + "team 0 4 = 0");
    }

    private static void reaching() {
        told(TEAMS, "The chest can be reached by a team if it has visited the chest, or if it could visit places one after"
                + " the other, the last of them the chest.");
        run("""
                hunt H/00*/00!a
                addTeam
                orders 0 = 1
                needed 0 = 2
                go 0 0
                orders 0 = 0
                needed 0 = NONE
                undo
                go 0 1
                orders 0 = 1
                needed 0 = 0
                """);
        run("hunt " + ZIGZAG + """

                addTeam
                orders 0 = 1
                shortest 0 0 = 10
                """ + goTo(0, 9) + """
                orders 0 = 1
                shortest 0 0 = 1
                go 0 9
                orders 0 = 1
                shortest 0 0 = 0
                """);
        run("""
                hunt H/00!*/00*
                addTeam
                orders 0 = 1
                shortest 0 0 = 1
                """);
        run("""
                hunt H/00!*/00a
                addTeam
                orders 0 = 0
                shortest 0 0 = NONE
                deadEnds = 1
                """);
    }

    private static void safePlaces() {
        told(TEAMS, "A place is safe for a team if it can visit it now, and the chest could be reached by it then.");
        run("hunt " + CLOSING + """

                addTeam
                open 0 = 3
                safe 0 = 2
                go 0 1
                open 0 = 5
                safe 0 = 4
                go 0 2
                open 0 = 9
                safe 0 = 9
                go 0 0
                safe 0 = 8
                go 0 3
                safe 0 = 0
                """);
        run("hunt " + TEN_FREE + """

                addTeam
                safe 0 = 1023
                """);
    }

    // TEXT

    private static void bufferLength() {
        told(TEXT, "The object has a text buffer of at most 120 characters.");
        run("""
                119 times append 33
                append 34 = 120
                append 35 ! STATE
                append 35 ! STATE
                clearText = 120
                clearText = 0
                append 36 = 1
                """);
        String hunt = "H/00*/00" + "!".repeat(111) + "a";
        run("text " + hunt + """

                append 97 ! STATE
                append 46 ! STATE
                errorPosition = NONE
                load = 2
                holds 1 0 = true
                clearText = 120
                """);
        run("text " + hunt.replace("!a", "a") + """

                errorPosition = NONE
                append 46 = 120
                errorPosition = 120
                append 97 ! STATE
                errorPosition = 120
                load ! STATE
                """);
    }

    private static void hunts() {
        told(TEXT, "A hunt is the letter H, followed by 2 to 10 places.");
        error("", "0");
        error("H", "1");
        error("G", "0");
        error("I", "0");
        error("h/00*/00*", "0");
        error("/00*/00*", "0");
        error("HH/00*/00*", "1");
        error("H/00*", "5");
        error("H/00*/00*", "NONE");
        error("H/00*/00*H", "9");
        error(NINE_FREE, "NONE");
        error(TEN_FREE, "NONE");
        error(TEN_FREE + "/00*", "41");
    }

    private static void error(String text, String due) {
        String write = text.isEmpty() ? "clearText" : "text " + text;
        boolean isHunt = due.equals("NONE");
        String load = isHunt ? "load = " + (text.split("/").length - 1) : "load ! STATE";
        run(write + "; errorPosition = " + due + "; " + load + "; clearText = " + text.length());
    }

    private static void placesInText() {
        told(TEXT, "A place is a slash, two digits for x and y, and its condition.");
        error("H/09*/90*", "NONE");
        error("H00*/00*", "1");
        error("H.00*/00*", "1");
        error("H000*/00*", "1");
        error("H//0*/00*", "2");
        error("H/:0*/00*", "2");
        error("H/0/*/00*", "3");
        error("H/0:*/00*", "3");
        error("H/0*/00*", "3");
        error("H/*/00*", "2");
        error("H/-1*/00*", "2");
        error("H/000*/00*", "4");
        error("H/00/00*", "4");
        error("H/00*/00", "8");
        error("H/00*/0", "7");
        error("H/00*/", "6");
        error("H/00*/0*", "7");
        run("""
                hunt H/09*/90*
                place 0 0 = 0
                place 0 1 = 9
                place 1 0 = 9
                place 1 1 = 0
                """);
    }

    private static void groupsInText() {
        told(TEXT, "A condition is one or more groups with + between them;");
        error("H/00*/00*+a", "NONE");
        error("H/00*/00*+a+*", "NONE");
        error("H/00*/00+a", "8");
        error("H/00*/00*++a", "10");
        error("H/00*/00*+", "10");
        error("H/00*+/00*", "6");
        error("H/00*/00" + "a+".repeat(55) + "a", "NONE");
        told(TEXT, "a group is one or more parts with . between them;");
        error("H/00*/00*.a", "NONE");
        error("H/00*/00*.a.*", "NONE");
        error("H/00*/00.a", "8");
        error("H/00*/00*..a", "10");
        error("H/00*/00*.", "10");
        error("H/00*/00*.+a", "10");
        error("H/00*/00*+.a", "10");
        error("H/00*/00*a", "9");
        error("H/00*/00aa", "9");
        error("H/00*./00*", "6");
        error("H/00*/00" + "a.".repeat(55) + "a", "NONE");
    }

    private static void partsInText() {
        told(TEXT, "a part is *,");
        error("H/00*/00*", "NONE");
        error("H/00*/00**", "9");
        error("H/00)/00*", "4");
        error("H/00+/00*", "4");
        told(TEXT, "or the letter of a place that was told ahead of it (not its own),");
        for (int p = 0; p < 10; p++) {
            String ahead = "H" + "/00*".repeat(p) + "/00";
            for (int q = 0; q < 12; q++) {
                boolean isTold = q < p;
                String enough = p == 0 ? "/00*" : "";
                error(ahead + (char) ('a' + q) + enough, isTold ? "NONE" : Integer.toString(ahead.length()));
            }
        }
        error("H/00*/00`", "8");
        error("H/00*/00A", "8");
        told(TEXT, "or ! and a part,");
        error("H/00!*/00!a", "NONE");
        error("H/00!!*/00!(!a)", "NONE");
        error("H/00*/00!", "9");
        error("H/00!/00*", "5");
        error("H/00*/00!+a", "9");
        error("H/00*/00!.a", "9");
        error("H/00*/00a!", "9");
        error("H/00*/00!" + "!".repeat(111), "120");
        error("H/00*/00" + "!".repeat(111) + "a", "NONE");
        told(TEXT, "or a condition in ( and ),");
        error("H/00(*)/00(a+*.a)", "NONE");
        error("H/00*/00()", "9");
        error("H/00*/00(a", "10");
        error("H/00*/00a)", "9");
        error("H/00*/00(a))", "11");
        error("H/00*/00(a]", "10");
        error("H/00*/00(a,a)", "10");
        error("H/00*/00(a)(a)", "11");
        error("H/00(*/00*", "6");
        error("H/00*/00(" + "(".repeat(111), "120");
        error("H/00*/00" + "(".repeat(55) + "a" + ")".repeat(55), "NONE");
        error("H/00*/00" + "(".repeat(55) + "a" + ")".repeat(54), "118");
        error("H/00*/00" + "(".repeat(55) + "a" + ")".repeat(56), "119");
    }

    private static void listsInText() {
        told(TEXT, "or a digit from 1 to 4 and one or more conditions with commas between them in [ and ].");
        error("H/00*/000[a]", "8");
        error("H/00*/001[a]", "NONE");
        error("H/00*/002[a]", "NONE");
        error("H/00*/003[a]", "NONE");
        error("H/00*/004[a]", "NONE");
        error("H/00*/005[a]", "8");
        error("H/00*/009[a]", "8");
        error("H/00*/0011[a]", "9");
        error("H/00*/00[a]", "8");
        error("H/00*/001a", "9");
        error("H/00*/001(a)", "9");
        error("H/00*/001", "9");
        error("H/00*/001[", "10");
        error("H/00*/001[]", "10");
        error("H/00*/001[,a]", "10");
        error("H/00*/001[a,,a]", "12");
        error("H/00*/001[a,]", "12");
        error("H/00*/001[a", "11");
        error("H/00*/001[a)", "11");
        error("H/00*/001[a]]", "12");
        error("H/00*/001[a],a", "12");
        error("H/00*/001[a]a", "12");
        error("H/00*/001[a+*,a.*,!a,(a),2[a,a]]", "NONE");
        error("H/00*/001[(a,a)]", "12");
        error("H/00*/001[(a],a)", "12");
        error("H/001[*/00*", "7");
        error("H/00*/00" + "1[".repeat(37) + "a" + "]".repeat(37), "NONE");
        error("H/00*/00" + "1[".repeat(37) + "a" + "]".repeat(36), "119");
        error("H/00*/00" + "1[".repeat(56), "120");
        error("H/00*/004[" + "a,".repeat(54) + "a]", "NONE");
    }

    private static void blanks() {
        told(TEXT, "There are no blanks.");
        String hunt = "H/12*/34!a.(a+*)/562[a,!b,a.b]";
        for (int i = 0; i <= hunt.length(); i++) {
            for (int blank : new int[] {9, 10, 13, 32, 160}) {
                StringBuilder lines = new StringBuilder();
                for (char c : (hunt.substring(0, i) + (char) blank + hunt.substring(i)).toCharArray()) {
                    lines.append("append " + (int) c + "; ");
                }
                run(lines + "errorPosition = " + i + "; load ! STATE");
            }
        }
    }

    private static void leftToRight() {
        told(TEXT, "The text is read from left to right.");
        error("H/0x*/00*/00*)", "3");
        error("h/0x*", "0");
        error("H/00b/00*", "4");
        error("H/00*/00c/00*", "8");
        error("H/00*/00a/00b/00z", "16");
        error("H/00(*/00*)/00*", "6");
        error(TEN_FREE + "/00z", "41");
        error(NINE_FREE + "/00j/00*", "40");
    }

    private static void errorPositions() {
        told(TEXT, "The error position is the index of the first character that these rules do not allow at its place (an"
                + " eleventh slash is not allowed);");
        error("x", "0");
        error("H/00*/00x", "8");
        error("H/00*/00*x", "9");
        error(TEN_FREE + "/", "41");
        error(TEN_FREE + "/00*", "41");
        error(TEN_FREE + ".*/", "43");
        error(NINE_FREE + "/", "38");
        error("H/00*/00" + "!".repeat(111) + "x", "119");
        errorPositionsOfAllSigns();
        told(TEXT, "if the text ends too soon, it is the length of the text.");
        String hunt = "H/12*/34!a.(a+*)/562[a,!b,a.b]+b/78!!c";
        Set<String> ready = Set.of("H/12*/34!a", "H/12*/34!a.(a+*)", "H/12*/34!a.(a+*)/562[a,!b,a.b]",
                "H/12*/34!a.(a+*)/562[a,!b,a.b]+b", hunt);
        for (int i = 0; i <= hunt.length(); i++) {
            String text = hunt.substring(0, i);
            error(text, ready.contains(text) ? "NONE" : Integer.toString(i));
        }
        error("H/00*/00" + "(".repeat(112), "120");
    }

    /** Behind each text, each of the 256 characters: which ones are allowed, and which of these end a hunt. */
    private static void errorPositionsOfAllSigns() {
        String begin = "*!(1234";
        signs("", "H", "");
        signs("H", "/", "");
        signs("H/", "0123456789", "");
        signs("H/0", "0123456789", "");
        signs("H/00", begin, "");
        signs("H/00!", begin, "");
        signs("H/00(", begin, "");
        signs("H/001", "[", "");
        signs("H/001[", begin, "");
        signs("H/001[*,", begin, "");
        signs("H/00*.", begin, "");
        signs("H/00*+", begin, "");
        signs("H/00*", ".+/", "");
        signs("H/00(*", ".+)", "");
        signs("H/001[*", ".+,]", "");
        signs("H/00(1[*", ".+,]", "");
        signs("H/001[(*", ".+)", "");
        signs("H/00(*)", ".+/", "");
        signs("H/001[*]", ".+/", "");
        signs("H/00(1[*]", ".+)", "");
        signs("H/001[(*)", ".+,]", "");
        signs("H/00*/", "0123456789", "");
        signs("H/00*/00", begin + "a", "*a");
        signs("H/00*/00!", begin + "a", "*a");
        signs("H/00*/00(", begin + "a", "");
        signs("H/00*/00*.", begin + "a", "*a");
        signs("H/00*/00*+", begin + "a", "*a");
        signs("H/00*/00a", ".+/", "");
        signs("H/00*/00(a", ".+)", ")");
        signs("H/00*/001[a", ".+,]", "]");
        signs("H/00*/00((a", ".+)", "");
        signs("H/00*/00*/00", begin + "ab", "*ab");
        signs(NINE_FREE + "/00", begin + "abcdefghi", "*abcdefghi");
        signs(NINE_FREE, ".+/", "");
        signs(TEN_FREE, ".+", "");
    }

    private static void signs(String text, String allowed, String ending) {
        for (int c = 0; c < 256; c++) {
            Calls object = new Calls();
            for (char told : text.toCharArray()) {
                object.answer("append " + (int) told);
            }
            object.answer("append " + c);
            int due = ending.indexOf(c) >= 0 ? -9 : allowed.indexOf(c) >= 0 ? text.length() + 1 : text.length();
            same("errorPosition of " + text + " and the character " + c, object.answer("errorPosition"), "" + due);
        }
    }

    // ACTIONS AND UNDO

    private static void state() {
        told(ACTIONS, "The methods in the section \"actions\" change the state, which consists of everything but the text"
                + " and the save slots.");
        run("hunt " + CLOSING + """

                clearText = 33
                append 72 = 1
                addTeam = 0
                save 0 = 1
                append 47 = 2
                addTeam = 1
                save 1 = 2
                append 72 = 3
                undo = 1
                undo = 0
                about 1 = 0
                errorPosition = 2
                restore 1 = 2
                restore 0 = 1
                clearText = 3
                """);
        run("""
                addTeam = 0
                hint 0 = 0
                text H/00*/00*
                undo = 1
                team 0 3 = 0
                errorPosition = NONE
                clearText = 9
                """);
    }

    private static void actions() {
        told(ACTIONS, "Each call of one of them that does not throw an exception is an action, also if nothing becomes"
                + " different (undo is none).");
        run("""
                addTeam = 0
                go 0 0 = 1
                hint 0 = 1
                move 0 0 0 = 0
                ease 0 = 2
                giveUp 0 = 0
                undo = 5
                undo = 4
                undo = 3
                undo = 2
                undo = 1
                undo = 0
                undo ! STATE
                """);
        run("""
                move 0 0 0 = 0
                move 0 0 0 = 0
                ease 0 = 2
                ease 0 = 2
                undo = 3
                undo = 2
                undo = 1
                move 1 0 0 = 0
                undo = 1
                undo = 0
                undo ! STATE
                undo ! STATE
                """);
        run("""
                addTeam = 0
                go 0 1 ! STATE
                go 0 2 ! INDEX
                hint 1 ! INDEX
                giveUp 1 ! INDEX
                move 0 10 0 ! ARGUMENT
                move 2 0 0 ! INDEX
                ease 2 ! INDEX
                undo = 0
                """);
    }

    private static void remembered() {
        told(ACTIONS, "Before each action, the state is remembered.");
        String before = """
                hunt H/11*/30a+!a/52!a.b/99b.2[a,c,!a]
                3 times addTeam
                go 0 1
                go 1 0
                hint 0
                save 0
                """;
        takesBack(before, "addTeam");
        takesBack(before, "go 0 2");
        takesBack(before, "go 1 1");
        takesBack(before, "hint 2");
        takesBack(before, "giveUp 0");
        takesBack(before, "giveUp 1");
        takesBack(before, "giveUp 2");
        takesBack(before, "move 1 9 9");
        takesBack(before, "ease 2");
        takesBack(before, "ease 3");
        takesBack("", "addTeam");
        takesBack("", "move 0 9 9");
        takesBack("", "ease 1");
        takesBack("hunt " + ZIGZAG + "; addTeam; " + goTo(0, 9), "go 0 9");
        takesBack("4 times addTeam; go 3 0; go 2 0; hint 2", "giveUp 0");
    }

    private static void forgotten() {
        told(ACTIONS, "At most 14 states are remembered; when one more is remembered, the oldest one is forgotten.");
        for (int actions : new int[] {1, 13, 14, 15, 16, 27, 28, 29, 30, 43}) {
            run(moves(0, actions) + undone(actions, Math.min(14, actions)) + "undo ! STATE; ");
        }
        // The ring of the remembered states is entered somewhere, left half, and filled beyond its end again.
        for (int first : new int[] {1, 5, 14, 15, 20}) {
            int kept = Math.max(0, Math.min(14, first) - 3);
            int taken = Math.min(first, 3);
            for (int then : new int[] {1, 10, 14, 15}) {
                int left = Math.min(14, kept + then);
                run(moves(0, first) + undone(first, taken).replaceAll("undo = [0-9]+", "undo")
                        + moves(first - taken, first - taken + then) + undone(first - taken + then, left)
                        + "undo ! STATE; ");
            }
        }
        run(moves(0, 20) + "save 0 = 0; undo = 13; restore 0 = 0; undo ! STATE; " + moves(20, 34) + undone(34, 14)
                + "undo ! STATE");
    }

    /** The actions from one number to another: each moves place 0 to where the count of actions so far says. */
    private static String moves(int from, int to) {
        StringBuilder lines = new StringBuilder();
        for (int i = from + 1; i <= to; i++) {
            lines.append("move 0 " + i / 10 + " " + i % 10 + " = " + (i - 1) + "; ");
        }
        return lines.toString();
    }

    private static String undone(int from, int count) {
        StringBuilder lines = new StringBuilder();
        for (int i = 1; i <= count; i++) {
            lines.append("undo = " + (count - i) + "; ");
            lines.append("place 0 0 = " + (from - i) / 10 + "; place 0 1 = " + (from - i) % 10 + "; ");
        }
        return lines.toString();
    }

    private static void noActions() {
        told(ACTIONS, "load and restore are not actions.");
        run("""
                hunt H/00*/00*
                undo ! STATE
                move 0 1 1
                load = 2
                undo ! STATE
                move 0 2 2
                save 0 = 0
                restore 0 = 0
                undo ! STATE
                place 0 0 = 2
                addTeam = 0
                undo = 0
                undo ! STATE
                """);
    }

    // EXCEPTIONS

    private static final long[] NO_PLACE = {-1, 4, 5, 9, 10, 11, 32, 33, 64, -9, -32, 256, 65536, Integer.MAX_VALUE,
        Integer.MIN_VALUE};
    private static final long[] NO_TEAM = {-1, 2, 3, 4, 5, 32, 64, -9, -32, 256, 65536, Integer.MAX_VALUE,
        Integer.MIN_VALUE};
    private static final long[] NO_SLOT = {-1, 2, 3, 32, 256, -9, Integer.MAX_VALUE, Integer.MIN_VALUE};

    private static void indexException() {
        told(EXCEPTIONS, "IndexOutOfBoundsException means that a place or a team does not exist, or that a save slot is not"
                + " 0 or 1.");
        String two = "hunt " + CLOSING + "; 2 times addTeam; save 0; save 1; ";
        for (String call : new String[] {"place # 0", "holds # 0", "go 0 #", "move # 0 0", "ease #"}) {
            each(two, call, "INDEX", NO_PLACE);
        }
        String[] ofTeams = {"team # 0", "trail # 0", "open #", "go # 0", "hint #", "giveUp #", "shortest # 0",
            "quickest # 0", "orders #", "safe #", "needed #"};
        for (String call : ofTeams) {
            each(two, call, "INDEX", NO_TEAM);
            each("", call, "INDEX", 0, 1, -1, 4);
            each("4 times addTeam", call, "INDEX", 4, 5, -1);
        }
        each(two, "save #", "INDEX", NO_SLOT);
        each(two, "restore #", "INDEX", NO_SLOT);
        each("hunt " + TEN_FREE, "ease #", "INDEX", 10, -1, 16, 32);
        each("hunt " + TEN_FREE, "place # 3", "INDEX", 10, -1, 16, 32);
        each("hunt " + TEN_FREE, "holds # 0", "INDEX", 10, -1, 16, 32);
        each("hunt " + TEN_FREE, "move # 0 0", "INDEX", 10, -1, 16, 32);
        each("hunt " + TEN_FREE + "; addTeam", "go 0 #", "INDEX", 10, -1, 16, 32);
        run("hunt " + TEN_FREE + """

                4 times addTeam
                ease 9 = 512
                move 9 0 0 = 0
                holds 9 0 = true
                go 3 9 = 1
                team 3 5 = 9
                save 0 = 4
                save 1 = 4
                restore 0 = 4
                restore 1 = 4
                """);
    }

    private static void argumentException() {
        told(EXCEPTIONS, "IllegalArgumentException means that another argument is out of its range.");
        long[] far = {Integer.MAX_VALUE, Integer.MIN_VALUE, -9};
        String one = "hunt " + CLOSING + "; addTeam; ";
        for (String call : new String[] {"append #", "about #", "place 0 #", "holds 0 #", "team 0 #", "trail 0 #",
            "move 0 # 0", "move 0 0 #", "shortest 0 #", "quickest 0 #", "runScript # 3000", "simulate 0 #"}) {
            each(one, call, "ARGUMENT", -1, -9, Integer.MIN_VALUE);
            if (!call.startsWith("trail")) {
                each(one, call, "ARGUMENT", far);
            }
        }
        each(one, "runScript 1 #", "ARGUMENT", -1, 10000, Long.MAX_VALUE, Long.MIN_VALUE);
        each(one, "append #", "ARGUMENT", 256, 328, 65608, -184);
        each(one, "about #", "ARGUMENT", 6, 256, 65536);
        each(one, "place 0 #", "ARGUMENT", 4, 256, 65536);
        each(one, "holds 0 #", "ARGUMENT", 16, 17, 256, 65536);
        each(one, "team 0 #", "ARGUMENT", 6, 256, 65536);
        each(one, "move 0 # 0", "ARGUMENT", 10, 256, 65536);
        each(one, "move 0 0 #", "ARGUMENT", 10, 256, 65536);
        each(one, "shortest 0 #", "ARGUMENT", 2, 256, 65536);
        each(one, "quickest 0 #", "ARGUMENT", 2, 256, 65536);
        each(one, "runScript # 3000", "ARGUMENT", 0, 5, 257, 65537);
        each(one, "simulate 0 #", "ARGUMENT", 0, 51, 257, 65537);
    }

    private static void stateException() {
        told(EXCEPTIONS, "IllegalStateException means what the method says.");
        run(FULL + """
                append 72 ! STATE
                load ! STATE
                addTeam ! STATE
                go 0 1 ! STATE
                go 0 3 ! STATE
                go 2 0 ! STATE
                hint 1 ! STATE
                hint 2 ! STATE
                """);
        run("""
                load ! STATE
                undo ! STATE
                restore 0 ! STATE
                restore 1 ! STATE
                """);
    }

    private static void firstNamed() {
        told(EXCEPTIONS, "If several exceptions apply to a call, the one that its description names first is thrown.");
        run(FULL + """
                append 256 ! ARGUMENT
                append -1 ! ARGUMENT
                append 255 ! STATE
                place 4 4 ! INDEX
                place -1 -1 ! INDEX
                place 3 4 ! ARGUMENT
                holds 4 16 ! INDEX
                holds -1 -1 ! INDEX
                holds 3 16 ! ARGUMENT
                team 4 6 ! INDEX
                team -1 -1 ! INDEX
                team 3 6 ! ARGUMENT
                trail 4 -1 ! INDEX
                trail -1 -1 ! INDEX
                trail 3 -1 ! ARGUMENT
                go 4 3 ! INDEX
                go 2 4 ! INDEX
                go 4 4 ! INDEX
                go -1 -1 ! INDEX
                go 2 3 ! STATE
                hint 4 ! INDEX
                hint -1 ! INDEX
                move 4 10 0 ! INDEX
                move 4 0 10 ! INDEX
                move -1 -1 -1 ! INDEX
                move 3 10 10 ! ARGUMENT
                shortest 4 2 ! INDEX
                shortest -1 -1 ! INDEX
                shortest 2 2 ! ARGUMENT
                shortest 1 2 ! ARGUMENT
                quickest 4 2 ! INDEX
                quickest -1 -1 ! INDEX
                quickest 2 2 ! ARGUMENT
                quickest 1 -1 ! ARGUMENT
                runScript 0 -1 ! ARGUMENT
                runScript 5 30003000300030003 ! ARGUMENT
                restore 2 ! INDEX
                """);
        run("""
                restore 2 ! INDEX
                restore -1 ! INDEX
                restore 1 ! STATE
                """);
    }

    private static void changesNothing() {
        // run() looks behind each refused call at all that there is, is remembered, and is saved.
        told(EXCEPTIONS, "A call that throws an exception changes nothing.");
        run(FULL + """
                append -1 ! ARGUMENT
                append 256 ! ARGUMENT
                append 42 ! STATE
                load ! STATE
                about 6 ! ARGUMENT
                place 4 0 ! INDEX
                place 0 4 ! ARGUMENT
                holds 4 0 ! INDEX
                holds 0 16 ! ARGUMENT
                team 4 0 ! INDEX
                team 0 6 ! ARGUMENT
                trail 4 0 ! INDEX
                trail 0 -1 ! ARGUMENT
                open 4 ! INDEX
                addTeam ! STATE
                go 4 0 ! INDEX
                go 0 4 ! INDEX
                go 2 0 ! STATE
                go 1 2 ! STATE
                go 0 1 ! STATE
                hint 4 ! INDEX
                hint 1 ! STATE
                hint 2 ! STATE
                giveUp 4 ! INDEX
                giveUp -1 ! INDEX
                move 4 1 1 ! INDEX
                move 0 10 1 ! ARGUMENT
                move 0 1 10 ! ARGUMENT
                ease 4 ! INDEX
                shortest 4 0 ! INDEX
                shortest 0 2 ! ARGUMENT
                quickest 4 0 ! INDEX
                quickest 0 2 ! ARGUMENT
                orders 4 ! INDEX
                safe 4 ! INDEX
                needed 4 ! INDEX
                runScript 0 3000 ! ARGUMENT
                runScript 1 10000 ! ARGUMENT
                simulate 1 0 ! ARGUMENT
                simulate 1 51 ! ARGUMENT
                save 2 ! INDEX
                restore 2 ! INDEX
                """);
        run("""
                text H/00*/00
                addTeam
                save 0
                go 0 0
                load ! STATE
                restore 1 ! STATE
                undo = 1
                undo = 0
                undo ! STATE
                about 1 = 0
                restore 0 = 1
                undo ! STATE
                """);
    }

    private static void none() {
        told("Terms", "The constants: NONE = -9: There is no such result.");
        same("NONE", ChestLetters.NONE, -9);
        run("""
                text H/00*/00!a
                errorPosition = -9
                load = 2
                easeBy = 1
                runScript 1 3000 = -9
                addTeam
                team 0 5 = -9
                trail 0 0 = -9
                go 0 0
                shortest 0 0 = -9
                shortest 0 1 = -9
                quickest 0 0 = -9
                quickest 0 1 = -9
                needed 0 = -9
                ease 1
                easeBy = -9
                go 0 1
                shortest 0 1 = -9
                quickest 0 1 = -9
                """);
    }

    private static void sections() {
        namesNoBoundary("Terms",
                "Ahead of the calls append, clearText, errorPosition, load the interface says: ---- text.");
        namesNoBoundary("Terms",
                "Ahead of the calls about, place, holds, team, trail, open the interface says: ---- what there is.");
        told("Terms",
                "Ahead of the calls addTeam, go, hint, giveUp, move, ease, undo the interface says: ---- actions.");
        run("""
                text H/00*/00!a
                errorPosition = NONE
                clearText = 10
                about 0 = 2
                place 0 3 = 2
                holds 1 1 = true
                deadEnds = 0
                easeBy = NONE
                runScript 1 3000 = NONE
                simulate 1 1 = 100002
                save 0 = 0
                undo ! STATE
                addTeam = 0
                team 0 1 = 0
                trail 0 0 = NONE
                open 0 = 1
                shortest 0 0 = 2
                quickest 0 0 = 2
                orders 0 = 1
                safe 0 = 1
                needed 0 = 3
                save 1 = 1
                undo = 0
                undo ! STATE
                """);
        // run() looks behind each of these calls at all that there is, is remembered, and is saved.
        told("Terms", "Ahead of the calls shortest, quickest, orders, safe, needed, deadEnds, easeBy the interface says:"
                + " ---- what would be; these and all following methods up to the save slots change nothing.");
        run(FULL + """
                shortest 0 0 = 2
                shortest 0 1 = 2
                quickest 3 0 = 21
                quickest 3 1 = 1
                orders 3 = 2
                safe 3 = 2
                needed 3 = 14
                deadEnds = 2
                easeBy = 2
                runScript 4 1020103040008100 = NONE
                runScript 4 4000300070999999 = 3
                simulate 77 50
                """);
        namesNoBoundary("Terms",
                "Ahead of the calls runScript, simulate the interface says: ---- scripts, simulations.");
        namesNoBoundary("Terms", "Ahead of the calls save, restore the interface says: ---- save slots.");
    }
}
