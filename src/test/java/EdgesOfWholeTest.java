/** The edges that promises 32 and 33 name, and the 512 calls of an object, sentence by sentence. */
public final class EdgesOfWholeTest {
    /** An act of each sort that can be undone, behind `everything`; none of them answers a finding. */
    private static final String[] ACTS = {
        "person(1, 5, 3, 2, 9)", "extend(0, 364)", "free(0, 1)", "place(127, 0, false, 1, 8)", "open(0, 0)",
        "open(1, 127)", "bar(0, 1, true)", "bar(0, 2, false)", "entry(0, 3, 77, 1, 5)", "strike()", "rule(0, 0)",
        "rule(1, 100)", "absent(0, 9)", "reason(0, 300)", "lay(0, 200, 0)",
    };

    public static void main(String[] args) throws Exception {
        calls();
        undo();
        told();
        Doc.end();
    }

    private static Run everything() {
        return new Run().does("person(0, 2, 127, 1, 10)", "person(2, 3, 127, 15, 20)", "person(3, 4, 85, 7, 30)",
                "place(127, 1, true, 1, 2)", "place(1, 0, false, 1, 1)", "bar(2, 0, true)", "entry(0, 1, 50, 0, 1)",
                "entry(1, 2, 70, 2, 8)", "absent(0, 4)", "absent(0, 20)", "sheet(0, 8, 2)", "put(0, 0, 30)",
                "put(0, 1, -1)");
    }

    private static void calls() throws Exception {
        Doc.chapter("What it is");
        Doc.leavesOut("A desk for hours owed to a town:");
        Doc.says("An object is used for at most 512 calls after it has been made; what later calls answer is free.");
        new Run().times(491, "told(0)").times(20, "rule(0, #)").due("undo()", 19);
        new Run().asks(511, "strike()").due("told(5)", 511);
        new Run().asks(510, "strike()").does("person(3, 300, 127, 15, 364)").due("of(0, 1)", 300);
    }

    private static void undo() throws Exception {
        Doc.chapter("Promise 32: undo");
        Doc.says("The latest act that changed people, PLACES, BARS, ENTRIES, RULES, ABSENCES (person, extend, free,"
                + " place, open, bar, entry, strike, rule, absent, reason, lay, without a finding) is undone: how many"
                + " more can be.");
        for (String act : ACTS) {
            Twins.areUndone(everything(), act);
        }
        undoOnlyActs();
        undoAllTheWay();
        Doc.says("NONE.");
        new Run().due("undo()", Due.NONE).does("person(0, 1, 0, 0, 0)").due("undo()", 0).due("undo()", Due.NONE)
                .due("told(0)", 0).due("undo()", Due.NONE);
        new Run().does("sheet(0, 8, 1)", "put(0, 0, 1)", "copy(0, 0, 0, 0, 1)").due("undo()", Due.NONE)
                .due("put(0, 0, 0)", 0);
        Doc.says("(The latest 20 are kept; also such as changed nothing.)");
        undoKeepsTwenty();
        undoOfNoChange();
        undoRound();
    }

    /** Neither refused acts, nor those that only ask, nor sheets are acts that can be undone. */
    private static void undoOnlyActs() {
        new Run().does("person(0, 1, 0, 0, 5)").allDue(Due.SIZE, "extend(0, 5)", "bar(0, 0, true)",
                "place(0, 0, false, 2, 1)", "entry(0, 1, 0, 0, 0)").allDue(Due.BEYOND, "free(0, 128)", "open(0, 0)",
                "rule(2, 0)", "absent(1, 0)", "reason(0, 0)", "lay(0, 365, 0)", "person(4, 1, 0, 0, 0)")
                .due("strike()", Due.NONE).does("sheet(0, 8, 1)", "put(0, 0, 1)", "copy(0, 0, 0, 0, 1)", "as(0, 0)",
                "of(0, 0)", "counted(0, 0, 0)", "countedOn(0, 0, 0)", "left(0, 0, 0)", "plan(0)", "plans(0)",
                "breaches(0, 0)", "late(0)", "told(0)").due("undo()", 0).due("told(0)", 0).due("undo()", Due.NONE);
    }

    private static void undoAllTheWay() {
        everything().due("undo()", 9).due("told(3)", 1).due("undo()", 8).due("told(3)", 0).due("undo()", 7)
                .due("told(2)", 1).due("undo()", 6).due("told(2)", 0).due("undo()", 5).due("told(4)", 0)
                .due("undo()", 4).due("told(1)", 1).due("undo()", 3).due("told(1)", 0).due("undo()", 2)
                .due("told(0)", 2).due("undo()", 1).due("told(0)", 1).due("undo()", 0).due("told(0)", 0)
                .due("undo()", Due.NONE);
    }

    private static void undoKeepsTwenty() {
        Run twenty = new Run().does("person(0, 9, 0, 0, 0)").times(19, "free(0, #)");
        for (int more = 19; more >= 1; more--) {
            twenty.due("undo()", more).due("of(0, 2)", Math.max(0, more - 2));
        }
        twenty.due("undo()", 0).due("told(0)", 0).due("undo()", Due.NONE);
        Run twentyOne = new Run().does("person(0, 9, 0, 0, 0)").times(20, "free(0, #)");
        for (int more = 19; more >= 0; more--) {
            twentyOne.due("undo()", more).due("of(0, 2)", Math.max(0, more - 1));
        }
        twentyOne.due("undo()", Due.NONE).due("told(0)", 1).due("of(0, 2)", 0);
    }

    private static void undoOfNoChange() {
        new Run().does("person(0, 9, 5, 0, 0)", "person(0, 9, 5, 0, 0)", "place(3, 0, false, 1, 1)", "sheet(0, 8, 0)")
                .due("free(0, 5)", 5).due("open(0, 3)", 3).due("bar(0, 1, false)", 0).due("rule(0, 60)", 60)
                .due("rule(1, 50)", 50).due("lay(0, 0, 0)", 0).due("absent(0, 0)", 0).due("reason(0, -1)", -1)
                .due("undo()", 10).due("undo()", 9).due("undo()", 8).due("undo()", 7).due("undo()", 6).due("undo()", 5)
                .due("undo()", 4).due("undo()", 3).due("told(1)", 1).due("undo()", 2).due("told(1)", 0)
                .due("told(0)", 2);
        Run nothing = new Run().does("person(0, 9, 0, 0, 0)").times(20, "rule(0, 60)");
        for (int more = 19; more >= 0; more--) {
            nothing.due("undo()", more);
        }
        nothing.due("undo()", Due.NONE).due("told(0)", 1);
    }

    /** Struck ENTRIES come back as they were, also where the kept acts have gone round and numbers were used anew. */
    private static void undoRound() {
        Run run = new Run().does("person(0, 300, 0, 0, 0)").times(17, "rule(0, #)").does("rule(0, 60)",
                "entry(0, 1, 11, 0, 2)", "entry(0, 2, 101, 2, 5)", "strike()", "strike()", "entry(0, 9, 99, 0, 9)",
                "strike()", "entry(0, 8, 88, 1, 8)");
        run.due("undo()", 19).due("told(2)", 0).due("undo()", 18).due("counted(0, 364, 364)", 99)
                .due("countedOn(0, 9, 9)", 99).due("undo()", 17).due("told(2)", 0)
                .due("undo()", 16).due("countedOn(0, 1, 2)", 11).due("countedOn(0, 1, 1)", 0).due("told(2)", 1)
                .due("undo()", 15).due("countedOn(0, 2, 5)", 50).due("countedOn(0, 2, 4)", 0).due("told(2)", 2)
                .due("strike()", 1).due("undo()", 15).due("countedOn(0, 2, 5)", 50).due("undo()", 14)
                .due("undo()", 13).due("told(2)", 0).due("rule(0, 1)", 60).due("undo()", 13);
    }

    private static void told() throws Exception {
        Doc.chapter("Promise 33: told");
        Doc.says("0 people, 1 PLACES, 2 ENTRIES, 3 ABSENCES, 4 BARS, 5 how many acts answered a finding ever (this one,"
                + " too, if it does).");
        everything().due("told(0)", 3).due("told(1)", 2).due("told(2)", 2).due("told(3)", 2).due("told(4)", 1)
                .due("told(5)", 0);
        new Run().times(8, "person(0, 1, 0, 0, 0)").times(3, "place(#, 0, false, 1, 1)").due("told(0)", 8)
                .due("told(1)", 3).times(60, "entry(0, #, 0, 0, #)").due("told(2)", 60).times(30, "absent(7, #)")
                .due("told(3)", 30).due("told(5)", 0);
        Run bars = new Run().times(8, "person(0, 1, 0, 0, 0)");
        for (int person = 0; person < 8; person++) {
            for (int other = 0; other < person; other++) {
                bars.due("bar(" + person + ", " + other + ", true)", 1);
            }
        }
        bars.due("told(4)", 28).does("bar(0, 7, false)").due("told(4)", 27);
        new Run().due("told(6)", Due.BEYOND).due("told(5)", 1).due("told(5)", 1).due("undo()", Due.NONE)
                .due("told(5)", 2).does("person(0, 1, 0, 0, 0)").due("court(0, 0)", Due.NONE)
                .due("as(0, 1)", Due.KIND).does("undo()").due("told(5)", 4);
        Doc.says("BEYOND: another what.");
        everything().allDue(Due.BEYOND, "told(-1)", "told(6)", "told(MIN)", "told(MAX)").due("told(5)", 4);
    }
}
