/** The edges that promises 25 to 27 name, sentence by sentence. */
public final class EdgesOfEndsTest {
    public static void main(String[] args) throws Exception {
        pace();
        foretold();
        late();
        Doc.end();
    }

    private static Run two() {
        return new Run().does("person(0, 2, 127, 0, 10)", "person(1, 3, 127, 0, 10)");
    }

    private static void pace() throws Exception {
        Doc.chapter("Promise 25: pace");
        Doc.says("THE PACE, a fraction in lowest terms: above (below) the line.");
        two().does("entry(0, 0, 12, 0, 0)").due("pace(0, 0, false)", 12).due("pace(0, 0, true)", 1)
                .due("pace(0, 1, false)", 6).due("pace(0, 1, true)", 1).due("pace(0, 4, false)", 12)
                .due("pace(0, 4, true)", 5).due("pace(0, 7, false)", 3).due("pace(0, 7, true)", 2)
                .due("pace(0, 23, false)", 1).due("pace(0, 23, true)", 2)
                .due("pace(0, 364, false)", 12).due("pace(0, 364, true)", 365);
        two().does("entry(0, 364, 900, 0, 364)").due("pace(0, 364, false)", 480).due("pace(0, 364, true)", 1);
        two().does("entry(0, 3, 1, 2, 3)").due("pace(0, 3, false)", 0).due("pace(0, 3, true)", 1)
                .due("pace(0, 9, false)", 0).due("pace(0, 9, true)", 1);
        new Run().does("person(0, 300, 0, 0, 0)").times(60, "entry(0, #, 900, 0, #)")
                .due("pace(0, 59, false)", 480).due("pace(0, 59, true)", 1)
                .due("pace(0, 364, false)", 5760).due("pace(0, 364, true)", 73);
        Doc.says("BEYOND: no such person, or DAY.");
        two().does("entry(0, 0, 12, 0, 0)").allDue(Due.BEYOND, "pace(2, 0, true)", "pace(-1, 0, false)",
                "pace(MIN, 0, true)", "pace(MAX, 0, false)", "pace(0, -1, true)", "pace(0, 365, true)",
                "pace(0, 365, false)", "pace(0, MIN, true)", "pace(0, MAX, false)");
        Doc.says("NONE: there is no such ENTRY.");
        two().allDue(Due.NONE, "pace(0, 0, true)", "pace(0, 364, false)")
                .does("entry(1, 0, 5, 0, 0)").due("pace(0, 364, true)", Due.NONE)
                .does("entry(0, 0, 0, 0, 0)").allDue(Due.NONE, "pace(0, 0, true)", "pace(0, 364, false)")
                .does("entry(0, 5, 1, 0, 7)").allDue(Due.NONE, "pace(0, 4, true)", "pace(0, 5, true)",
                "pace(0, 6, false)").due("pace(0, 7, true)", 3).does("strike()").due("pace(0, 7, true)", Due.NONE);
    }

    private static void foretold() throws Exception {
        Doc.chapter("Promise 26: foretold");
        Doc.says("FORETOLD.");
        two().does("entry(0, 0, 40, 0, 0)").due("foretold(0, 0)", 2).does("entry(0, 0, 1, 0, 0)").due("foretold(0, 0)", 2)
                .does("strike()", "strike()", "entry(0, 0, 39, 0, 0)").due("foretold(0, 0)", 3);
        two().does("entry(0, 4, 120, 0, 4)").due("foretold(0, 4)", 4).due("foretold(0, 5)", 5)
                .due("foretold(0, 364)", 364);
        two().does("entry(0, 4, 119, 0, 4)").due("foretold(0, 4)", 5).due("foretold(0, 364)", 364 + 4);
        new Run().does("person(0, 300, 0, 0, 0)", "entry(0, 0, 1, 0, 0)").due("foretold(0, 0)", 17999)
                .due("foretold(0, 364)", 364 + 17999 * 365);
        Doc.says("BEYOND.");
        two().does("entry(0, 0, 12, 0, 0)").allDue(Due.BEYOND, "foretold(2, 0)", "foretold(-1, 0)", "foretold(MIN, 0)",
                "foretold(MAX, 0)", "foretold(0, -1)", "foretold(0, 365)", "foretold(0, MIN)", "foretold(0, MAX)");
        Doc.says("NONE: THE PACE is 0, or there is none.");
        two().allDue(Due.NONE, "foretold(0, 0)", "foretold(0, 364)").does("entry(0, 3, 0, 0, 3)")
                .due("foretold(0, 3)", Due.NONE).does("entry(0, 3, 1, 2, 3)").due("pace(0, 3, false)", 0)
                .due("foretold(0, 3)", Due.NONE).does("entry(0, 3, 1, 0, 4)").due("foretold(0, 3)", Due.NONE)
                .due("foretold(0, 2)", Due.NONE).due("foretold(0, 4)", 4 + 119 * 2).due("foretold(1, 364)", Due.NONE);
    }

    private static void late() throws Exception {
        Doc.chapter("Promise 27: late");
        Doc.says("How many people are FORETOLD, on a DAY, behind their DUE DAY, or can't be FORETOLD, and are not DONE.");
        new Run().due("late(0)", 0).due("late(364)", 0);
        new Run().times(8, "person(0, 1, 0, 0, 364)").due("late(0)", 8).due("late(364)", 8);
        Run run = new Run().does("person(0, 2, 0, 0, 10)", "entry(0, 0, 11, 0, 0)");
        run.due("foretold(0, 0)", 10).due("late(0)", 0).does("strike()", "entry(0, 0, 10, 0, 0)")
                .due("foretold(0, 0)", 11).due("late(0)", 1).does("extend(0, 11)").due("late(0)", 0);
        new Run().does("person(0, 1, 0, 0, 0)", "entry(0, 5, 59, 0, 5)").due("late(4)", 1).due("late(5)", 1)
                .does("entry(0, 5, 1, 0, 6)").due("late(5)", 1).due("foretold(0, 6)", 6).due("late(6)", 0)
                .due("late(364)", 0);
        new Run().does("person(0, 1, 0, 0, 364)", "entry(0, 3, 1, 2, 3)").due("late(3)", 1)
                .does("rule(1, 100)").due("late(3)", 0);
        new Run().does("person(0, 300, 0, 0, 364)", "entry(0, 0, 49, 0, 0)").due("foretold(0, 0)", 367).due("late(0)", 1)
                .does("entry(0, 0, 1, 0, 0)").due("foretold(0, 0)", 359).due("late(0)", 0);
        Doc.says("BEYOND.");
        two().allDue(Due.BEYOND, "late(-1)", "late(365)", "late(MIN)", "late(MAX)");
    }
}
