/** The edges that the terms name, sentence by sentence; those that are a promise's own have its test, too. */
public final class EdgesOfTermsTest {
    public static void main(String[] args) throws Exception {
        Doc.chapter("Terms");
        // No call answers these; LanguageTest looks for them in the source.
        Doc.leavesOut("Ahead of the calls ");
        findings();
        order();
        days();
        sets();
        people();
        places();
        entries();
        counting();
        plans();
        thePlan();
        absences();
        ends();
        sheets();
        Doc.end();
    }

    private static void findings() {
        Doc.says("FINDINGS are answers below -99999: -100001 BEYOND, -100002 MISSING, -100003 SIZE, -100004 KIND,"
                + " -100005 FULL, -100006 NONE.");
        new Run().due("plan(365)", -100001).due("put(0, 0, 0)", -100002).due("sheet(0, 8, -1)", -100003)
                .does("person(0, 1, 0, 0, 0)").due("as(0, 1)", -100004).times(3, "place(0, 0, false, 1, 1)")
                .due("place(0, 0, false, 1, 1)", -100005).due("strike()", -100006).due("told(5)", 6);
    }

    /** In each row a call for which several findings hold: the one that is asked first is due. */
    private static void order() {
        Doc.says("Each act tells its findings in the order in which they are asked; an act that answers a finding changes"
                + " nothing.");
        Run full = new Run().times(8, "person(1, 1, 127, 0, 364)")
                .times(3, "place(127, 0, false, 1, 8)").times(60, "entry(0, #, 1, 0, #)").times(30, "absent(0, #)")
                .does("sheet(0, 8, 3)", "sheet(1, 16, 3)");
        full.allDue(Due.BEYOND, "person(4, 1, 0, 0, 0)", "person(0, 301, 0, 0, 0)", "person(0, 1, 128, 0, 0)",
                "person(0, 1, 0, 16, 0)", "person(0, 1, 0, 0, 365)", "as(8, 2)", "extend(8, 0)", "extend(0, 365)",
                "extend(0, -1)", "place(128, 0, false, 2, 1)", "place(0, 16, false, 2, 1)", "place(0, 0, false, 9, 1)",
                "place(0, 0, false, 2, 0)", "bar(8, 8, true)", "entry(8, 1, 1, 0, 0)", "entry(0, 1, 901, 0, 0)",
                "entry(0, 1, 1, 3, 0)", "entry(0, 365, 1, 0, 0)", "entry(0, 1, 1, 0, -1)", "absent(8, 0)",
                "absent(0, 365)", "reason(30, 0)", "reason(29, -2)", "planned(365, 0)", "when(365, 8)", "when(0, 9)",
                "court(1, 365)", "pace(1, 365, true)", "foretold(1, 365)", "told(6)");
        full.allDue(Due.SIZE, "place(0, 0, false, 2, 1)", "entry(0, 1, 1, 0, 0)", "absent(0, 0)");
        full.allDue(Due.FULL, "person(0, 1, 0, 0, 0)", "place(0, 0, false, 1, 1)", "entry(0, 1, 1, 0, 1)",
                "absent(1, 0)", "lay(0, 0, 0)");
        full.allDue(Due.BEYOND, "sheet(4, 8, -1)", "sheet(0, 7, -1)", "sheet(4, 8, 21)", "put(4, 9, 0)",
                "copy(4, -1, 2, 0, 0)", "copy(2, 0, 4, -1, 0)", "lay(8, 0, 2)", "lay(0, 365, 2)", "lay(0, 0, 4)",
                "lay(0, 363, 0)");
        full.allDue(Due.MISSING, "put(2, 9, 0)", "put(2, -1, 0)", "copy(2, -1, 0, 0, 0)", "copy(0, 0, 2, 0, 99)",
                "lay(0, 364, 2)");
        full.allDue(Due.KIND, "copy(0, -1, 1, 0, 1)", "copy(1, 0, 0, 9, 1)", "copy(0, 0, 1, 0, 99)");
    }

    private static void days() {
        Doc.says("DAYS are 0 to 364; WEEKDAY of a DAY: its rest by 7.");
        String[] calls = {"person(0, 1, 0, 0, #)", "extend(2, #)", "counted(0, #, 364)", "countedOn(0, #, 364)",
            "left(0, #, 364)", "plan(#)", "gang(#, 0)", "plans(#)", "late(#)", "absent(0, #)", "breaches(0, #)",
            "counted(0, 0, #)", "countedOn(0, 0, #)", "left(0, 0, #)", "entry(0, 0, 0, 0, #)", "entry(0, #, 0, 0, 364)",
            "lay(0, #, 0)", "pace(1, #, true)", "foretold(1, #)", "planned(#, 1)", "when(#, 1)"};
        for (String call : calls) {
            for (String day : new String[] {"-1", "365", "-365", "MIN", "MAX"}) {
                ordinary().due(call.replace("#", day), Due.BEYOND);
            }
            ordinary().does(call.replace("#", call.startsWith("extend") ? "1" : "0"));
            ordinary().does(call.replace("#", "364"));
        }
        for (int weekday = 0; weekday < 7; weekday++) {
            Run run = new Run().does("person(0, 300, " + (1 << weekday) + ", 0, 0)", "place(127, 0, false, 1, 1)");
            Run closed = new Run().does("person(0, 300, 127, 0, 0)", "place(" + (1 << weekday) + ", 0, false, 1, 1)");
            for (int day = 0; day <= 364; day++) {
                run.due("plan(" + day + ")", day % 7 == weekday ? 1 : 0);
                closed.due("plan(" + day + ")", day % 7 == weekday ? 1 : 0);
            }
        }
    }

    /** A person 1 with an ENTRY on DAY 0, and one 2 who is DUE on DAY 0. */
    private static Run ordinary() {
        return new Run().does("person(0, 9, 127, 0, 9)", "person(0, 9, 127, 0, 9)", "person(0, 9, 0, 0, 0)",
                "entry(1, 0, 9, 0, 0)", "place(127, 0, false, 1, 8)", "sheet(0, 8, 0)");
    }

    private static void sets() {
        Doc.says("Sets are told by bits.");
        for (int set = 0; set < 128; set++) {
            Run run = new Run().does("person(0, 300, " + set + ", 0, 0)", "place(127, 0, false, 1, 1)")
                    .due("of(0, 2)", set).due("free(0, 127)", set).due("open(0, " + set + ")", 127);
            for (int weekday = 0; weekday < 7; weekday++) {
                run.due("plan(" + weekday + ")", set >> weekday & 1);
            }
        }
        for (int has = 0; has < 16; has++) {
            for (int asks = 0; asks < 16; asks++) {
                new Run().does("person(0, 1, 1, " + has + ", 0)", "place(1, " + asks + ", false, 1, 1)")
                        .due("plan(0)", (asks & has) == asks ? 1 : 0);
            }
        }
    }

    private static void people() {
        Doc.says("PEOPLE 0, 1, .. (at most 8) are of a kind: 0 PERSON, 1 YOUNG under it, 2 SKILLED under PERSON,"
                + " 3 LEARNER under YOUNG; each OWES hours (1 to 300), is FREE on WEEKDAYS (a set of 0 to 6), has SKILLS"
                + " (a set of 0 to 3), and a DUE DAY.");
        Run run = new Run();
        for (int i = 0; i < 8; i++) {
            run.due("person(" + i % 4 + ", " + (i < 4 ? 1 : 300) + ", " + (i < 4 ? 0 : 127) + ", " + (i < 4 ? 0 : 15)
                    + ", " + (i < 4 ? 0 : 364) + ")", i);
        }
        run.due("of(7, 0)", 3).due("of(3, 1)", 1).due("of(4, 1)", 300).due("of(4, 2)", 127).due("of(4, 3)", 15)
                .due("of(4, 4)", 364).due("as(7, 1)", 7).due("as(7, 0)", 7).due("as(7, 2)", Due.KIND)
                .due("as(6, 0)", 6).due("as(6, 1)", Due.KIND).due("as(5, 3)", Due.KIND).due("as(4, 2)", Due.KIND);
        run.due("person(0, 1, 0, 0, 0)", Due.FULL);
        Doc.says("BARS: pairs of people.");
        run.due("bar(0, 7, true)", 1).due("bar(7, 0, true)", 0).due("told(4)", 1).due("bar(7, 0, false)", 1)
                .due("told(4)", 0).due("bar(7, 7, true)", Due.SIZE);
    }

    private static void places() {
        Doc.says("PLACES 0, 1, .. (at most 3) are OPEN on WEEKDAYS, ASK for SKILLS, need a LEADER (SKILLED) or not, and"
                + " have a LEAST and a MOST of people (1 to 8, LEAST not above MOST).");
        for (int least = 0; least <= 9; least++) {
            for (int most = 0; most <= 9; most++) {
                boolean beyond = least < 1 || least > 8 || most < 1 || most > 8;
                new Run().due("place(127, 0, false, " + least + ", " + most + ")",
                        beyond ? Due.BEYOND : least > most ? Due.SIZE : 0);
            }
        }
        new Run().due("place(0, 0, false, 1, 1)", 0).due("place(127, 15, true, 8, 8)", 1)
                .due("place(1, 1, false, 4, 5)", 2).due("place(1, 1, false, 4, 5)", Due.FULL);
        for (int kind = 0; kind < 4; kind++) {
            new Run().does("person(" + kind + ", 1, 127, 0, 0)", "place(127, 0, true, 1, 1)")
                    .due("plan(0)", kind == 2 ? 1 : 0);
        }
    }

    private static void entries() {
        Doc.says("ENTRIES, at most 60: of a person on a DAY so many minutes (0 to 900) of a SORT: 0 WORK, 1 TRAVEL,"
                + " 2 RAIN; KNOWN since a DAY (not ahead of its own).");
        Run run = new Run().does("person(0, 300, 127, 0, 0)", "rule(0, 300)", "rule(1, 10)");
        run.due("entry(0, 0, 0, 0, 0)", 0).due("entry(0, 0, 300, 0, 0)", 1).due("countedOn(0, 0, 0)", 300)
                .due("entry(0, 1, 301, 1, 1)", 2).due("countedOn(0, 1, 1)", 300).due("entry(0, 2, 900, 2, 2)", 3)
                .due("countedOn(0, 2, 2)", 90).due("entry(0, 3, 901, 0, 3)", Due.BEYOND)
                .due("entry(0, 3, -1, 0, 3)", Due.BEYOND).due("entry(0, 3, 1, 3, 3)", Due.BEYOND)
                .due("entry(0, 3, 1, 0, 2)", Due.SIZE).due("entry(0, 364, 1, 0, 364)", 4)
                .due("entry(0, 0, 1, 0, 364)", 5).times(54, "entry(0, #, 0, 1, 300)").due("told(2)", 60)
                .due("entry(0, 0, 0, 0, 0)", Due.FULL);
    }

    private static void counting() {
        Doc.says("RULES: of TRAVEL of a DAY at most T minutes count (0 to 300; 60 at first), of RAIN so many hundredths"
                + " (0 to 100; 50 at first), cut, of WORK all; of a DAY at most 480 minutes of all count, of a YOUNG one"
                + " (LEARNER, too) 240.");
        rules();
        for (int kind = 0; kind < 4; kind++) {
            int limit = kind == 1 || kind == 3 ? 240 : 480;
            new Run().does("person(" + kind + ", 300, 0, 0, 0)", "entry(0, 9, " + (limit - 61) + ", 0, 9)",
                    "entry(0, 9, 61, 1, 9)").due("countedOn(0, 9, 9)", limit - 1).does("entry(0, 9, 2, 2, 9)")
                    .due("countedOn(0, 9, 9)", limit).does("entry(0, 9, 1, 0, 9)").due("countedOn(0, 9, 9)", limit)
                    .does("entry(0, 10, 900, 0, 10)").due("counted(0, 10, 10)", 2 * limit);
        }
        Doc.says("COUNTED of a person up to a DAY D as KNOWN at K: by ENTRIES of DAYS up to D, KNOWN since K at most"
                + " (minutes; of each SORT together by DAY).");
        new Run().does("person(0, 300, 0, 0, 0)", "entry(0, 5, 1, 2, 5)", "entry(0, 6, 1, 2, 6)").due("counted(0, 6, 6)", 0)
                .does("entry(0, 6, 1, 2, 8)").due("counted(0, 6, 7)", 0).due("counted(0, 6, 8)", 1)
                .due("counted(0, 5, 8)", 0).does("entry(0, 5, 59, 1, 5)", "entry(0, 5, 9, 1, 5)", "entry(0, 6, 2, 1, 6)")
                .due("counted(0, 5, 5)", 60).due("counted(0, 6, 6)", 62).due("counted(0, 6, 5)", 60)
                .due("counted(0, 4, 364)", 0).due("counted(0, 364, 4)", 0);
        Doc.says("DONE: COUNTED is 60 times what it OWES at least.");
        new Run().does("person(0, 8, 127, 0, 0)", "place(127, 0, false, 1, 1)", "entry(0, 0, 479, 0, 0)")
                .due("left(0, 0, 0)", 1).due("plan(1)", 1).due("late(0)", 1).does("entry(0, 0, 1, 0, 0)")
                .due("left(0, 0, 0)", 0).due("plan(1)", 0).due("late(0)", 0).does("entry(0, 1, 9, 0, 1)")
                .due("left(0, 1, 1)", 0).due("plan(2)", 0);
        new Run().does("person(0, 300, 127, 0, 0)", "place(127, 0, false, 1, 1)").times(37, "entry(0, #, 480, 0, #)")
                .due("left(0, 36, 36)", 240).due("plan(37)", 1).does("entry(0, 37, 239, 0, 37)").due("plan(38)", 1)
                .does("entry(0, 37, 1, 0, 37)").due("plan(38)", 0).due("left(0, 37, 37)", 0);
    }

    private static void rules() {
        new Run().does("person(0, 300, 0, 0, 0)", "entry(0, 0, 60, 1, 0)").due("countedOn(0, 0, 0)", 60)
                .does("entry(0, 0, 1, 1, 0)").due("countedOn(0, 0, 0)", 60).due("rule(0, 61)", 60)
                .due("countedOn(0, 0, 0)", 61).does("rule(0, 62)").due("countedOn(0, 0, 0)", 61).does("rule(0, 0)")
                .due("countedOn(0, 0, 0)", 0).does("rule(0, 300)", "entry(0, 0, 238, 1, 0)").due("countedOn(0, 0, 0)", 299)
                .does("entry(0, 0, 2, 1, 0)").due("countedOn(0, 0, 0)", 300);
        new Run().does("person(0, 300, 0, 0, 0)", "entry(0, 0, 1, 2, 0)").due("countedOn(0, 0, 0)", 0)
                .does("entry(0, 0, 1, 2, 0)").due("countedOn(0, 0, 0)", 1).does("entry(0, 0, 1, 2, 0)")
                .due("countedOn(0, 0, 0)", 1).due("rule(1, 100)", 50).due("countedOn(0, 0, 0)", 3).does("rule(1, 99)")
                .due("countedOn(0, 0, 0)", 2).does("rule(1, 0)").due("countedOn(0, 0, 0)", 0).does("rule(1, 33)")
                .due("countedOn(0, 0, 0)", 0).does("rule(1, 34)").due("countedOn(0, 0, 0)", 1);
        new Run().does("person(0, 300, 0, 0, 0)", "rule(0, 0)", "rule(1, 0)", "entry(0, 0, 480, 0, 0)")
                .due("countedOn(0, 0, 0)", 480);
        new Run().does("person(0, 300, 0, 0, 0)").times(60, "entry(0, 0, 900, 2, 0)").due("countedOn(0, 0, 0)", 480)
                .does("rule(1, 0)").due("countedOn(0, 0, 0)", 0);
    }

    private static void plans() {
        Doc.says("A PLAN of a DAY (as KNOWN on that DAY) gives each person a PLACE or none: only to who is FREE on that"
                + " WEEKDAY, is not DONE (by ENTRIES ahead of that DAY), and has all SKILLS that the PLACE ASKS for; a PLACE"
                + " that is not OPEN then has nobody; a PLACE has nobody, or from LEAST to MOST people, with a LEADER among"
                + " them, if it needs one; no pair of BARS is at one PLACE.");
        Run done = new Run().does("person(0, 1, 127, 0, 0)", "place(127, 0, false, 1, 1)", "entry(0, 5, 60, 0, 7)");
        done.due("plan(5)", 1).due("plan(6)", 1).due("plan(7)", 0).due("plan(364)", 0).does("strike()")
                .due("plan(7)", 1).does("entry(0, 0, 60, 0, 0)").due("plan(0)", 1).due("plan(1)", 0)
                .does("strike()", "entry(0, 363, 60, 0, 364)").due("plan(363)", 1).due("plan(364)", 0)
                .does("strike()", "entry(0, 364, 60, 0, 364)").due("plan(364)", 1);
        new Run().does("person(0, 1, 2, 0, 0)", "place(3, 0, false, 1, 1)").due("plan(0)", 0).due("plan(1)", 1)
                .does("open(0, 1)").due("plan(1)", 0).does("free(0, 1)").due("plan(0)", 1);
        new Run().does("person(0, 1, 1, 7, 0)", "place(1, 15, false, 1, 1)").due("plan(0)", 0)
                .does("place(1, 7, false, 1, 1)").due("planned(0, 0)", 1);
        for (int size = 1; size <= 8; size++) {
            for (int least = 1; least <= 8; least++) {
                for (int most = least; most <= 8; most++) {
                    new Run().times(size, "person(0, 1, 1, 0, 0)").does("place(1, 0, false, " + least + ", " + most + ")")
                            .due("plan(0)", size < least ? 0 : Math.min(size, most));
                }
            }
        }
        leadersAndBars();
    }

    private static void leadersAndBars() {
        new Run().times(3, "person(0, 1, 1, 0, 0)").does("place(1, 0, true, 1, 3)").due("plan(0)", 0)
                .does("person(2, 1, 1, 0, 0)").due("plan(0)", 3).due("planned(0, 3)", 0).due("planned(0, 2)", Due.NONE)
                .does("free(3, 0)").due("plan(0)", 0);
        new Run().does("person(2, 1, 1, 0, 0)", "person(0, 1, 1, 15, 0)", "place(1, 1, true, 1, 2)").due("plan(0)", 0);
        new Run().times(2, "person(0, 1, 1, 0, 0)").does("place(1, 0, false, 2, 2)", "bar(0, 1, true)").due("plan(0)", 0)
                .does("place(1, 0, false, 1, 1)").due("plan(0)", 1).does("place(1, 0, false, 1, 1)").due("plan(0)", 2)
                .due("planned(0, 0)", 1).due("planned(0, 1)", 2).does("bar(1, 0, false)").due("planned(0, 1)", 0);
        new Run().times(3, "person(0, 1, 1, 0, 0)").does("bar(0, 1, true)", "place(1, 0, false, 1, 3)").due("plan(0)", 2)
                .due("planned(0, 1)", Due.NONE).due("planned(0, 2)", 0);
        new Run().times(8, "person(0, 1, 1, 0, 0)").does("bar(0, 7, true)", "place(1, 0, false, 1, 8)").due("plan(0)", 7)
                .due("planned(0, 7)", Due.NONE).due("plans(0)", 2).does("undo()", "undo()", "place(1, 0, false, 1, 8)")
                .due("plan(0)", 8);
    }

    private static void thePlan() {
        Doc.says("THE PLAN is that with most people at PLACES; of several the first, told person by person, by PLACES'"
                + " numbers, none last.");
        new Run().times(2, "person(0, 1, 1, 0, 0)").does("place(1, 0, false, 1, 1)").due("planned(0, 0)", 0)
                .due("planned(0, 1)", Due.NONE).does("place(1, 0, false, 2, 2)").due("planned(0, 0)", 1)
                .due("planned(0, 1)", 1).does("place(1, 0, false, 1, 1)").due("planned(0, 0)", 0)
                .due("planned(0, 1)", 2).due("plans(0)", 3);
        new Run().does("person(0, 1, 1, 2, 0)", "person(0, 1, 1, 3, 0)", "place(1, 1, false, 1, 1)",
                "place(1, 2, false, 1, 1)").due("planned(0, 0)", 1).due("planned(0, 1)", 0);
        new Run().times(3, "person(0, 1, 1, 0, 0)").does("place(1, 0, false, 2, 2)", "bar(0, 1, true)")
                .due("planned(0, 0)", 0).due("planned(0, 1)", Due.NONE).due("planned(0, 2)", 0).due("plans(0)", 2);
        new Run().times(8, "person(0, 1, 1, 0, 0)").times(3, "place(1, 0, false, 1, 8)").due("plan(0)", 8)
                .due("gang(0, 0)", 8).due("gang(0, 1)", 0).due("gang(0, 2)", 0);
    }

    private static void absences() {
        Doc.says("ABSENCES, at most 30: of a person on a DAY, KNOWN since that DAY; a REASON may be proved, from a DAY on"
                + " (not ahead of the absence).");
        Run run = new Run().does("person(0, 1, 0, 0, 0)").times(30, "absent(0, #)")
                .due("absent(0, 30)", Due.FULL).due("told(3)", 30);
        run.due("breaches(0, 0)", 1).due("reason(29, 28)", Due.SIZE).due("reason(29, 29)", -1).due("reason(29, 30)", 29);
        Doc.says("A BREACH as KNOWN at K: an ABSENCE on a DAY up to K without a REASON proved up to K.");
        new Run().does("person(0, 1, 0, 0, 0)", "absent(0, 5)").due("breaches(0, 4)", 0).due("breaches(0, 5)", 1)
                .does("reason(0, 5)").due("breaches(0, 5)", 0).does("reason(0, 6)").due("breaches(0, 5)", 1)
                .due("breaches(0, 6)", 0).due("breaches(0, 364)", 0).does("reason(0, 364)").due("breaches(0, 363)", 1)
                .due("breaches(0, 364)", 0).does("reason(0, -1)").due("breaches(0, 364)", 1);
        Doc.says("COURT of a person as KNOWN at K: the first DAY of a BREACH that has another BREACH of the person on one"
                + " of the 28 DAYS ahead of it (not on the same DAY).");
        for (int apart = 1; apart <= 60; apart++) {
            new Run().does("person(0, 1, 0, 0, 0)", "person(0, 1, 0, 0, 0)", "absent(0, 100)", "absent(1, 100)",
                    "absent(0, " + (100 + apart) + ")").due("court(0, 364)", apart <= 28 ? 100 + apart : Due.NONE)
                    .due("court(0, " + (99 + apart) + ")", Due.NONE).due("court(1, 364)", Due.NONE);
        }
    }

    private static void ends() {
        Doc.says("THE PACE of a person on a DAY D: COUNTED up to D (as KNOWN on D), by how many DAYS there are from the"
                + " first DAY of an ENTRY of its up to D (KNOWN on D, and of minutes above 0), both counted, to D.");
        Run run = new Run().does("person(0, 300, 0, 0, 0)", "person(0, 300, 0, 0, 0)", "entry(0, 2, 0, 0, 2)",
                "entry(1, 1, 9, 0, 1)", "entry(0, 4, 1, 0, 4)", "entry(0, 3, 1, 0, 6)", "entry(0, 7, 1, 0, 7)");
        run.due("pace(0, 3, true)", Due.NONE).due("pace(0, 4, true)", 1).due("pace(0, 5, true)", 2)
                .due("pace(0, 5, false)", 1).due("pace(0, 6, true)", 2).due("pace(0, 6, false)", 1)
                .due("pace(0, 7, true)", 5).due("pace(0, 7, false)", 3).due("pace(0, 364, true)", 362)
                .due("pace(0, 364, false)", 3);
        Doc.says("FORETOLD: the DAY on which it is DONE, if it goes on so: the first DAY E from D on with COUNTED and PACE"
                + " times (E - D) together at 60 times what it OWES at least (it may be above 364).");
        new Run().does("person(0, 1, 0, 0, 0)", "entry(0, 9, 20, 0, 9)").due("foretold(0, 9)", 11)
                .due("foretold(0, 10)", 14).due("foretold(0, 364)", 364 + 712).does("entry(0, 9, 39, 0, 9)")
                .due("foretold(0, 9)", 10).does("entry(0, 9, 1, 0, 9)").due("foretold(0, 9)", 9)
                .due("foretold(0, 364)", 364).due("foretold(0, 8)", Due.NONE);
        new Run().does("person(0, 1, 0, 0, 0)", "entry(0, 364, 59, 0, 364)").due("foretold(0, 364)", 365);
    }

    private static void sheets() {
        Doc.says("SHEETS 0 to 3 are rows of up to 20 numbers of 8, 16 or 32 bits, or MISSING (all, at first).");
        for (int bits = -1; bits <= 33; bits++) {
            boolean right = bits == 0 || bits == 8 || bits == 16 || bits == 32;
            for (int s = -1; s <= 4; s++) {
                boolean there = s >= 0 && s <= 3;
                new Run().due("put(" + s + ", 0, 0)", there ? Due.MISSING : Due.BEYOND)
                        .due("sheet(" + s + ", " + bits + ", 20)", !right || !there ? Due.BEYOND : bits == 0 ? 0 : 20)
                        .due("put(" + s + ", 19, 0)", !there ? Due.BEYOND : right && bits > 0 ? 0 : Due.MISSING);
            }
        }
        new Run().due("sheet(0, 8, 21)", Due.BEYOND).due("sheet(0, 8, 20)", 20).due("put(0, 20, 0)", Due.BEYOND)
                .due("sheet(0, 8, 0)", 0).due("put(0, 0, 0)", Due.BEYOND);
    }
}
