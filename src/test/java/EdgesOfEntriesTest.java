/** The edges that promises 10 to 15 name, sentence by sentence. */
public final class EdgesOfEntriesTest {
    public static void main(String[] args) throws Exception {
        entry();
        strike();
        rule();
        counted();
        countedOn();
        left();
        Doc.end();
    }

    private static Run two() {
        return new Run().does("person(0, 2, 127, 0, 10)", "person(1, 3, 127, 0, 10)");
    }

    private static void entry() throws Exception {
        Doc.chapter("Promise 10: entry");
        Doc.says("A new ENTRY: its number.");
        two().due("entry(0, 0, 0, 0, 0)", 0).due("entry(1, 364, 900, 2, 364)", 1).due("entry(0, 0, 900, 1, 364)", 2)
                .due("told(2)", 3);
        Doc.says("BEYOND: no such person, DAY, minutes, SORT, or KNOWN.");
        two().does("entry(0, 3, 50, 0, 3)").allDue(Due.BEYOND,
                "entry(2, 5, 10, 0, 5)", "entry(-1, 5, 10, 0, 5)", "entry(MIN, 5, 10, 0, 5)", "entry(MAX, 5, 10, 0, 5)",
                "entry(0, 365, 10, 0, 364)", "entry(0, 365, 10, 0, 365)", "entry(0, -1, 10, 0, 5)",
                "entry(0, MIN, 10, 0, 5)", "entry(0, MAX, 10, 0, MAX)",
                "entry(0, 5, -1, 0, 5)", "entry(0, 5, 901, 0, 5)", "entry(0, 5, MIN, 0, 5)", "entry(0, 5, MAX, 0, 5)",
                "entry(0, 5, 10, -1, 5)", "entry(0, 5, 10, 3, 5)", "entry(0, 5, 10, MIN, 5)", "entry(0, 5, 10, MAX, 5)",
                "entry(0, 5, 10, 0, 365)", "entry(0, 0, 10, 0, -1)", "entry(0, 5, 10, 0, MIN)",
                "entry(0, 5, 10, 0, MAX)").due("told(2)", 1);
        Doc.says("SIZE: KNOWN is ahead of its DAY.");
        two().allDue(Due.SIZE, "entry(0, 5, 10, 0, 4)", "entry(0, 1, 10, 0, 0)", "entry(0, 364, 10, 0, 363)",
                "entry(0, 364, 10, 0, 0)").due("told(2)", 0).due("entry(0, 5, 10, 0, 5)", 0)
                .due("entry(0, 5, 10, 0, 6)", 1);
        Doc.says("FULL: there are 60.");
        two().times(59, "entry(0, #, 1, 0, #)").due("entry(1, 9, 7, 0, 9)", 59)
                .allDue(Due.FULL, "entry(0, 0, 0, 0, 0)", "entry(1, 364, 900, 2, 364)").due("told(2)", 60)
                .due("strike()", 59).due("entry(1, 9, 8, 0, 9)", 59).due("entry(1, 9, 8, 0, 9)", Due.FULL)
                .due("counted(1, 364, 364)", 8);
    }

    private static void strike() throws Exception {
        Doc.chapter("Promise 11: strike");
        Doc.says("The latest ENTRY goes: how many there are.");
        two().does("entry(0, 5, 10, 0, 5)", "entry(1, 1, 20, 0, 1)").due("strike()", 1)
                .due("counted(1, 364, 364)", 0).due("counted(0, 364, 364)", 10).due("strike()", 0)
                .due("counted(0, 364, 364)", 0).due("entry(1, 0, 0, 0, 0)", 0);
        two().times(60, "entry(0, #, 1, 0, #)").due("strike()", 59).due("counted(0, 364, 364)", 59);
        Doc.says("NONE.");
        two().due("strike()", Due.NONE).does("entry(0, 0, 0, 0, 0)", "strike()").due("strike()", Due.NONE)
                .due("told(2)", 0);
        two().does("entry(0, 0, 0, 0, 0)", "undo()").due("strike()", Due.NONE);
    }

    private static void rule() throws Exception {
        Doc.chapter("Promise 12: rule");
        Doc.says("RULE: what 0 T, 1 hundredths of RAIN becomes v: what it was.");
        new Run().due("rule(0, 0)", 60).due("rule(0, 300)", 0).due("rule(0, 1)", 300).due("rule(0, 1)", 1)
                .due("rule(1, 0)", 50).due("rule(1, 100)", 0).due("rule(1, 99)", 100).due("rule(1, 99)", 99)
                .due("rule(0, 2)", 1);
        Doc.says("BEYOND.");
        two().does("entry(0, 0, 99, 1, 0)", "entry(0, 1, 99, 2, 1)").allDue(Due.BEYOND, "rule(-1, 0)", "rule(2, 0)",
                "rule(MIN, 0)", "rule(MAX, 0)", "rule(0, -1)", "rule(0, 301)", "rule(0, MIN)", "rule(0, MAX)",
                "rule(1, -1)", "rule(1, 101)", "rule(1, 300)", "rule(1, MIN)", "rule(1, MAX)")
                .due("countedOn(0, 0, 0)", 60).due("countedOn(0, 1, 1)", 49);
    }

    private static void counted() throws Exception {
        Doc.chapter("Promise 13: counted");
        Doc.says("COUNTED.");
        two().due("counted(0, 364, 364)", 0).does("entry(0, 0, 3, 0, 0)", "entry(0, 364, 4, 0, 364)",
                "entry(0, 7, 500, 0, 9)", "entry(1, 7, 500, 0, 7)")
                .due("counted(0, 0, 0)", 3).due("counted(0, 6, 364)", 3).due("counted(0, 7, 8)", 3)
                .due("counted(0, 7, 9)", 483).due("counted(0, 363, 364)", 483).due("counted(0, 364, 364)", 487)
                .due("counted(0, 364, 363)", 483).due("counted(0, 364, 0)", 3).due("counted(0, 0, 364)", 3)
                .due("counted(1, 364, 364)", 240);
        new Run().does("person(0, 300, 0, 0, 0)").times(60, "entry(0, #, 900, 0, #)")
                .due("counted(0, 364, 364)", 60 * 480).due("counted(0, 59, 59)", 60 * 480)
                .due("counted(0, 58, 59)", 59 * 480);
        Doc.says("BEYOND: no such person, or DAYS.");
        two().allDue(Due.BEYOND, "counted(2, 0, 0)", "counted(-1, 0, 0)", "counted(MIN, 0, 0)", "counted(MAX, 0, 0)",
                "counted(0, 365, 0)", "counted(0, -1, 0)", "counted(0, MIN, 0)", "counted(0, MAX, 0)",
                "counted(0, 0, 365)", "counted(0, 0, -1)", "counted(0, 0, MIN)", "counted(0, 0, MAX)");
    }

    private static void countedOn() throws Exception {
        Doc.chapter("Promise 14: countedOn");
        Doc.says("What of a DAY counts.");
        two().does("entry(0, 4, 3, 0, 4)", "entry(0, 5, 10, 0, 7)", "entry(0, 6, 70, 1, 6)")
                .due("countedOn(0, 3, 364)", 0).due("countedOn(0, 4, 4)", 3).due("countedOn(0, 4, 3)", 0)
                .due("countedOn(0, 5, 6)", 0).due("countedOn(0, 5, 7)", 10).due("countedOn(0, 5, 364)", 10)
                .due("countedOn(0, 6, 6)", 60).due("countedOn(0, 7, 364)", 0).due("countedOn(1, 4, 4)", 0);
        two().does("entry(0, 0, 5, 0, 0)", "entry(0, 364, 6, 0, 364)").due("countedOn(0, 0, 0)", 5)
                .due("countedOn(0, 364, 364)", 6).due("countedOn(0, 364, 363)", 0);
        Doc.says("BEYOND.");
        two().allDue(Due.BEYOND, "countedOn(2, 0, 0)", "countedOn(-1, 0, 0)", "countedOn(MIN, 0, 0)",
                "countedOn(MAX, 0, 0)", "countedOn(0, 365, 0)", "countedOn(0, -1, 0)", "countedOn(0, MIN, 0)",
                "countedOn(0, MAX, 0)", "countedOn(0, 0, 365)", "countedOn(0, 0, -1)", "countedOn(0, 0, MIN)",
                "countedOn(0, 0, MAX)");
    }

    private static void left() throws Exception {
        Doc.chapter("Promise 15: left");
        Doc.says("Minutes that are still owed up to a DAY (as KNOWN at another one), 0 if DONE.");
        two().due("left(0, 0, 0)", 120).due("left(1, 364, 364)", 180)
                .does("entry(0, 5, 119, 0, 6)").due("left(0, 4, 364)", 120).due("left(0, 5, 5)", 120)
                .due("left(0, 5, 6)", 1).due("left(0, 364, 6)", 1)
                .does("entry(0, 7, 1, 0, 7)").due("left(0, 7, 6)", 1).due("left(0, 6, 7)", 1).due("left(0, 7, 7)", 0)
                .does("entry(0, 8, 1, 0, 8)").due("left(0, 8, 8)", 0).due("left(0, 364, 364)", 0);
        new Run().does("person(0, 300, 0, 0, 0)").due("left(0, 0, 0)", 18000);
        Doc.says("BEYOND.");
        two().allDue(Due.BEYOND, "left(2, 0, 0)", "left(-1, 0, 0)", "left(MIN, 0, 0)", "left(MAX, 0, 0)",
                "left(0, 365, 0)", "left(0, -1, 0)", "left(0, MIN, 0)", "left(0, MAX, 0)", "left(0, 0, 365)",
                "left(0, 0, -1)", "left(0, 0, MIN)", "left(0, 0, MAX)");
    }
}
