/** The edges that promises 21 to 24 name, sentence by sentence. */
public final class EdgesOfAbsencesTest {
    public static void main(String[] args) throws Exception {
        absent();
        reason();
        breaches();
        court();
        Doc.end();
    }

    private static Run two() {
        return new Run().does("person(0, 2, 127, 0, 10)", "person(1, 3, 127, 0, 10)");
    }

    private static void absent() throws Exception {
        Doc.chapter("Promise 21: absent");
        Doc.says("A new ABSENCE: its number.");
        two().due("absent(0, 0)", 0).due("absent(1, 364)", 1).due("absent(0, 364)", 2).due("told(3)", 3);
        Doc.says("BEYOND: no such person, or DAY.");
        two().does("absent(0, 1)").allDue(Due.BEYOND, "absent(2, 0)", "absent(-1, 0)", "absent(MIN, 0)",
                "absent(MAX, 0)", "absent(0, -1)", "absent(0, 365)", "absent(0, MIN)", "absent(0, MAX)")
                .due("told(3)", 1);
        Doc.says("SIZE: the person has one on that DAY.");
        two().does("absent(0, 0)", "absent(0, 5)").allDue(Due.SIZE, "absent(0, 0)", "absent(0, 5)").due("told(3)", 2)
                .due("absent(1, 0)", 2).due("absent(0, 4)", 3).due("absent(0, 6)", 4).due("absent(1, 0)", Due.SIZE)
                .does("reason(0, 0)").due("absent(0, 0)", Due.SIZE);
        two().does("absent(0, 5)", "undo()").due("absent(0, 5)", 0);
        Doc.says("FULL: there are 30.");
        two().times(29, "absent(0, #)").due("absent(1, 0)", 29)
                .allDue(Due.FULL, "absent(0, 364)", "absent(1, 1)").due("told(3)", 30)
                .due("breaches(0, 364)", 29).due("breaches(1, 364)", 1)
                .does("undo()").due("absent(0, 29)", 29).due("absent(0, 30)", Due.FULL).due("reason(29, 29)", -1);
    }

    private static void reason() throws Exception {
        Doc.chapter("Promise 22: reason");
        Run run = two().does("absent(0, 0)", "absent(0, 10)", "absent(1, 364)");
        Doc.says("The REASON of an ABSENCE is proved from a DAY on (-1: not at all): from when it was (-1: not at all,"
                + " no finding).");
        run.due("reason(0, 0)", -1).due("reason(0, 364)", 0).due("reason(0, -1)", 364).due("reason(0, -1)", -1)
                .due("reason(1, 10)", -1).due("reason(1, 10)", 10).due("reason(1, 11)", 10).due("reason(2, 364)", -1)
                .due("reason(1, 10)", 11).due("reason(2, -1)", 364).due("told(5)", 0);
        Doc.says("BEYOND: no such ABSENCE, or DAY.");
        run.allDue(Due.BEYOND, "reason(3, 364)", "reason(30, 364)", "reason(-1, 364)", "reason(MIN, 364)",
                "reason(MAX, 364)", "reason(0, 365)", "reason(0, -2)", "reason(0, MIN)", "reason(0, MAX)",
                "reason(3, -1)").due("reason(1, 12)", 10);
        two().times(30, "absent(1, #)").due("reason(30, 364)", Due.BEYOND).due("reason(29, 364)", -1);
        Doc.says("SIZE: that is ahead of the ABSENCE.");
        run.allDue(Due.SIZE, "reason(1, 9)", "reason(1, 0)", "reason(2, 363)", "reason(2, 0)").due("reason(1, -1)", 12);
    }

    private static void breaches() throws Exception {
        Doc.chapter("Promise 23: breaches");
        Doc.says("How many BREACHES a person has as KNOWN at a DAY.");
        two().due("breaches(0, 364)", 0).does("absent(0, 0)", "absent(0, 10)", "absent(1, 11)", "absent(0, 364)")
                .due("breaches(0, 0)", 1).due("breaches(0, 9)", 1).due("breaches(0, 10)", 2).due("breaches(0, 363)", 2)
                .due("breaches(0, 364)", 3).does("reason(1, 12)").due("breaches(0, 11)", 2).due("breaches(0, 12)", 1)
                .does("reason(1, 10)").due("breaches(0, 10)", 1).due("breaches(0, 9)", 1)
                .does("reason(0, 0)").due("breaches(0, 0)", 0).does("reason(0, -1)").due("breaches(0, 0)", 1)
                .does("reason(3, 364)").due("breaches(0, 364)", 1).due("breaches(1, 10)", 0).due("breaches(1, 11)", 1);
        two().times(30, "absent(1, #)").due("breaches(1, 28)", 29).due("breaches(1, 29)", 30).due("breaches(0, 29)", 0);
        Doc.says("BEYOND.");
        two().allDue(Due.BEYOND, "breaches(2, 0)", "breaches(-1, 0)", "breaches(MIN, 0)", "breaches(MAX, 0)",
                "breaches(0, -1)", "breaches(0, 365)", "breaches(0, MIN)", "breaches(0, MAX)");
    }

    private static void court() throws Exception {
        Doc.chapter("Promise 24: court");
        Doc.says("COURT.");
        two().does("absent(0, 0)", "absent(0, 1)").due("court(0, 1)", 1).due("court(0, 364)", 1);
        two().does("absent(0, 0)", "absent(0, 28)").due("court(0, 28)", 28).due("court(0, 364)", 28);
        two().does("absent(0, 364)", "absent(0, 336)").due("court(0, 364)", 364);
        two().does("absent(0, 40)", "absent(0, 30)", "absent(0, 20)").due("court(0, 40)", 30).due("court(0, 30)", 30);
        two().does("absent(0, 20)", "absent(0, 30)", "absent(0, 40)").due("court(0, 40)", 30).does("reason(0, 35)")
                .due("court(0, 34)", 30).due("court(0, 40)", 40).does("reason(0, -1)", "reason(1, 35)")
                .due("court(0, 40)", 40).due("court(0, 34)", 30);
        Doc.says("BEYOND.");
        two().allDue(Due.BEYOND, "court(2, 0)", "court(-1, 0)", "court(MIN, 0)", "court(MAX, 0)", "court(0, -1)",
                "court(0, 365)", "court(0, MIN)", "court(0, MAX)");
        Doc.says("NONE: there is none.");
        two().due("court(0, 364)", Due.NONE).does("absent(0, 0)").due("court(0, 364)", Due.NONE)
                .does("absent(0, 29)").due("court(0, 364)", Due.NONE).does("absent(1, 28)")
                .allDue(Due.NONE, "court(0, 364)", "court(1, 364)").does("absent(0, 57)").due("court(0, 56)", Due.NONE)
                .due("court(0, 57)", 57).does("reason(3, 57)").due("court(0, 364)", Due.NONE)
                .does("reason(3, -1)", "reason(1, 60)").due("court(0, 60)", Due.NONE).due("court(0, 59)", 57);
    }
}
