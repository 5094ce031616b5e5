/** The edges that promises 16 to 20 name, sentence by sentence. */
public final class EdgesOfPlansTest {
    public static void main(String[] args) throws Exception {
        plan();
        planned();
        gang();
        plans();
        when();
        Doc.end();
    }

    private static Run people(int n) {
        return new Run().times(n, "person(0, 1, 127, 0, 100)");
    }

    private static void plan() throws Exception {
        Doc.chapter("Promise 16: plan");
        Doc.says("How many people THE PLAN of a DAY has at PLACES.");
        people(8).due("plan(0)", 0);
        new Run().does("place(127, 0, false, 1, 8)").due("plan(0)", 0);
        people(1).does("place(127, 0, false, 1, 1)").due("plan(0)", 1).due("plan(364)", 1);
        people(8).does("place(127, 0, false, 1, 1)").due("plan(0)", 1).does("place(127, 0, false, 7, 7)")
                .due("plan(0)", 8).does("place(127, 0, false, 8, 8)").due("plan(364)", 8);
        people(8).does("place(127, 0, false, 3, 3)", "place(127, 0, false, 3, 3)", "place(127, 0, false, 3, 3)")
                .due("plan(0)", 6);
        Doc.says("BEYOND.");
        people(1).allDue(Due.BEYOND, "plan(-1)", "plan(365)", "plan(MIN)", "plan(MAX)");
    }

    private static void planned() throws Exception {
        Doc.chapter("Promise 17: planned");
        Run run = people(3).does("place(127, 0, false, 1, 1)", "place(1, 0, false, 1, 1)");
        Doc.says("The PLACE that THE PLAN of a DAY gives a person.");
        run.due("planned(0, 0)", 0).due("planned(0, 1)", 1).due("planned(364, 1)", 1).due("planned(363, 0)", 0);
        people(8).does("place(127, 0, false, 2, 2)", "place(127, 0, false, 2, 2)", "place(127, 0, false, 4, 4)")
                .due("planned(0, 0)", 0).due("planned(0, 1)", 0).due("planned(0, 2)", 1).due("planned(0, 3)", 1)
                .allDue(2, "planned(0, 4)", "planned(0, 5)", "planned(0, 6)", "planned(0, 7)");
        Doc.says("BEYOND.");
        run.allDue(Due.BEYOND, "planned(-1, 0)", "planned(365, 0)", "planned(MIN, 0)", "planned(MAX, 0)",
                "planned(0, -1)", "planned(0, 3)", "planned(0, 8)", "planned(0, MIN)", "planned(0, MAX)");
        people(8).due("planned(0, 8)", Due.BEYOND);
        Doc.says("NONE: it gives it none.");
        run.allDue(Due.NONE, "planned(0, 2)", "planned(363, 1)", "planned(1, 1)");
        people(8).allDue(Due.NONE, "planned(0, 0)", "planned(364, 7)");
        people(1).does("place(127, 0, false, 2, 2)").due("planned(0, 0)", Due.NONE).does("person(0, 1, 127, 0, 0)")
                .due("planned(0, 0)", 0);
    }

    private static void gang() throws Exception {
        Doc.chapter("Promise 18: gang");
        Doc.says("How many people THE PLAN of a DAY has at a PLACE.");
        people(8).does("place(127, 0, false, 1, 8)", "place(1, 0, false, 8, 8)").due("gang(0, 0)", 8)
                .due("gang(0, 1)", 0).due("gang(364, 0)", 8).does("place(127, 0, false, 1, 1)").due("gang(0, 2)", 0);
        people(8).does("place(127, 0, false, 3, 3)", "place(127, 0, false, 2, 3)", "place(127, 0, false, 2, 2)")
                .due("gang(0, 0)", 3).due("gang(0, 1)", 3).due("gang(0, 2)", 2);
        new Run().does("place(127, 0, false, 1, 1)").due("gang(0, 0)", 0);
        people(3).does("place(127, 0, false, 1, 2)").due("gang(6, 0)", 2);
        Doc.says("BEYOND.");
        people(1).does("place(127, 0, false, 1, 1)").allDue(Due.BEYOND, "gang(-1, 0)", "gang(365, 0)", "gang(MIN, 0)",
                "gang(MAX, 0)", "gang(0, -1)", "gang(0, 1)", "gang(0, 3)", "gang(0, MIN)", "gang(0, MAX)");
        people(2).times(3, "place(127, #, false, 1, 1)").due("gang(0, 3)", Due.BEYOND).due("gang(0, 2)", 0);
    }

    private static void plans() throws Exception {
        Doc.chapter("Promise 19: plans");
        Doc.says("How many PLANS of a DAY have as many people at PLACES as THE PLAN.");
        new Run().due("plans(0)", 1);
        people(8).due("plans(0)", 1).does("place(0, 0, false, 1, 8)").due("plans(0)", 1)
                .does("open(0, 127)").due("plans(364)", 1);
        people(8).does("place(127, 0, false, 1, 8)", "place(127, 0, false, 1, 8)").due("plans(0)", 256)
                .does("place(127, 0, false, 1, 8)").due("plans(0)", 6561);
        people(8).does("place(127, 0, false, 8, 8)", "place(127, 0, false, 8, 8)", "place(127, 0, false, 8, 8)")
                .due("plans(0)", 3);
        people(7).does("place(127, 0, false, 8, 8)").due("plans(0)", 1);
        people(8).does("place(127, 0, false, 4, 4)").due("plans(0)", 70);
        people(8).does("place(127, 0, false, 1, 1)", "place(127, 0, false, 1, 1)", "place(127, 0, false, 1, 1)")
                .due("plans(0)", 336);
        Doc.says("BEYOND.");
        people(1).allDue(Due.BEYOND, "plans(-1)", "plans(365)", "plans(MIN)", "plans(MAX)");
    }

    private static void when() throws Exception {
        Doc.chapter("Promise 20: when");
        Doc.says("The first DAY from one on, at most 6 later (and up to 364), whose PLAN has as many people at PLACES as"
                + " told, at least.");
        Run run = new Run().does("person(0, 300, 64, 0, 0)", "person(0, 300, 96, 0, 0)", "place(127, 0, false, 1, 8)");
        run.due("when(0, 1)", 5).due("when(0, 2)", 6).due("when(5, 1)", 5).due("when(6, 1)", 6).due("when(6, 2)", 6)
                .due("when(7, 1)", 12).due("when(7, 2)", 13).due("when(363, 2)", 363).due("when(357, 2)", 363)
                .due("when(356, 2)", 356);
        people(8).does("place(127, 0, false, 8, 8)").due("when(0, 8)", 0).due("when(364, 8)", 364)
                .due("when(364, 1)", 364);
        new Run().does("person(0, 300, 1, 0, 0)", "place(127, 0, false, 1, 1)").due("when(358, 1)", 364)
                .due("when(364, 1)", 364).due("when(1, 1)", 7);
        new Run().does("person(0, 1, 127, 0, 0)", "place(1, 0, false, 1, 1)").due("when(1, 1)", 7)
                .does("entry(0, 6, 60, 0, 7)").due("when(0, 1)", 0).due("when(1, 1)", Due.NONE);
        Doc.says("BEYOND: no such DAY, or n is not 1 to 8.");
        people(8).does("place(127, 0, false, 1, 8)").allDue(Due.BEYOND, "when(-1, 1)", "when(365, 1)", "when(MIN, 1)",
                "when(MAX, 1)", "when(0, 0)", "when(0, 9)", "when(0, -1)", "when(0, MIN)", "when(0, MAX)");
        Doc.says("NONE.");
        run.allDue(Due.NONE, "when(0, 3)", "when(0, 8)", "when(364, 1)", "when(364, 8)");
        new Run().does("person(0, 300, 2, 0, 0)", "place(127, 0, false, 1, 1)").due("when(359, 1)", Due.NONE)
                .due("when(358, 1)", 358);
        people(7).does("place(127, 0, false, 8, 8)").allDue(Due.NONE, "when(0, 8)", "when(0, 1)");
    }
}
