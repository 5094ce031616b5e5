/** The edges that promises 1 to 9 name, sentence by sentence. */
public final class EdgesOfPeopleTest {
    public static void main(String[] args) throws Exception {
        newObject();
        person();
        as();
        of();
        extend();
        free();
        place();
        open();
        bar();
        Doc.end();
    }

    private static Run two() {
        return new Run().does("person(0, 2, 3, 1, 10)", "person(3, 300, 127, 15, 364)");
    }

    private static void newObject() throws Exception {
        Doc.chapter("Promise 1: A new object");
        Doc.says("Nobody, no PLACES, ENTRIES, ABSENCES; RULES as told; sheets MISSING.");
        new Run().allDue(0, "told(0)", "told(1)", "told(2)", "told(3)", "told(4)", "told(5)");
        new Run().allDue(Due.BEYOND, "of(0, 0)", "as(0, 0)", "extend(0, 1)", "free(0, 0)", "open(0, 0)",
                "bar(0, 1, true)", "entry(0, 0, 0, 0, 0)", "counted(0, 0, 0)", "countedOn(0, 0, 0)", "left(0, 0, 0)",
                "planned(0, 0)", "gang(0, 0)", "absent(0, 0)", "reason(0, 0)", "reason(0, -1)", "breaches(0, 0)",
                "court(0, 0)", "pace(0, 0, true)", "foretold(0, 0)", "lay(0, 0, 0)");
        new Run().allDue(Due.NONE, "strike()", "undo()", "when(0, 1)", "when(364, 8)");
        new Run().allDue(Due.MISSING, "put(0, 0, 0)", "put(1, 0, 0)", "put(2, 0, 0)", "put(3, 0, 0)",
                "copy(0, 0, 0, 0, 0)", "copy(3, 0, 3, 0, 0)");
        new Run().allDue(0, "plan(0)", "plan(364)", "late(0)", "late(364)").allDue(1, "plans(0)", "plans(364)");
        new Run().due("rule(0, 0)", 60).due("rule(1, 0)", 50);
    }

    private static void person() throws Exception {
        Doc.chapter("Promise 2: person");
        Doc.says("A new person: its number.");
        new Run().due("person(0, 1, 0, 0, 0)", 0).due("person(3, 300, 127, 15, 364)", 1)
                .due("person(0, 1, 0, 0, 0)", 2).due("told(0)", 3);
        Doc.says("BEYOND: no such kind, hours, sets, or DAY.");
        new Run().allDue(Due.BEYOND,
                "person(-1, 1, 0, 0, 0)", "person(4, 1, 0, 0, 0)", "person(MIN, 1, 0, 0, 0)", "person(MAX, 1, 0, 0, 0)",
                "person(0, 0, 0, 0, 0)", "person(0, 301, 0, 0, 0)", "person(0, -1, 0, 0, 0)",
                "person(0, MIN, 0, 0, 0)", "person(0, MAX, 0, 0, 0)",
                "person(0, 1, -1, 0, 0)", "person(0, 1, 128, 0, 0)", "person(0, 1, MIN, 0, 0)",
                "person(0, 1, MAX, 0, 0)", "person(0, 1, 256, 0, 0)",
                "person(0, 1, 0, -1, 0)", "person(0, 1, 0, 16, 0)", "person(0, 1, 0, MIN, 0)",
                "person(0, 1, 0, MAX, 0)", "person(0, 1, 0, 32, 0)",
                "person(0, 1, 0, 0, -1)", "person(0, 1, 0, 0, 365)", "person(0, 1, 0, 0, MIN)",
                "person(0, 1, 0, 0, MAX)")
                .due("told(0)", 0);
        Doc.says("FULL: there are 8.");
        new Run().times(7, "person(2, 300, 127, 15, #)").due("person(0, 1, 0, 0, 0)", 7)
                .allDue(Due.FULL, "person(0, 1, 0, 0, 0)", "person(3, 300, 127, 15, 364)")
                .due("told(0)", 8).due("of(7, 1)", 1).does("undo()").due("person(1, 2, 0, 0, 0)", 7)
                .due("person(1, 2, 0, 0, 0)", Due.FULL);
    }

    private static void as() throws Exception {
        Doc.chapter("Promise 3: as");
        Run kinds = new Run().does("person(0, 1, 0, 0, 0)", "person(1, 1, 0, 0, 0)", "person(2, 1, 0, 0, 0)",
                "person(3, 1, 0, 0, 0)");
        Doc.says("A person as one of a kind: its number.");
        kinds.allDue(0, "as(0, 0)").allDue(1, "as(1, 0)", "as(1, 1)").allDue(2, "as(2, 0)", "as(2, 2)")
                .allDue(3, "as(3, 0)", "as(3, 1)", "as(3, 3)");
        Doc.says("BEYOND: no such person, or kind.");
        kinds.allDue(Due.BEYOND, "as(4, 0)", "as(-1, 0)", "as(MIN, 0)", "as(MAX, 0)", "as(0, 4)", "as(0, -1)",
                "as(0, MIN)", "as(0, MAX)", "as(0, 32)", "as(3, 35)", "as(0, -32)");
        Doc.says("KIND: it is not of that kind, nor of one under it.");
        kinds.allDue(Due.KIND, "as(0, 1)", "as(0, 2)", "as(0, 3)", "as(1, 2)", "as(1, 3)", "as(2, 1)", "as(2, 3)",
                "as(3, 2)");
    }

    private static void of() throws Exception {
        Doc.chapter("Promise 4: of");
        Doc.says("Of a person: 0 its kind, 1 what it OWES, 2 FREE, 3 SKILLS, 4 DUE DAY.");
        two().due("of(0, 0)", 0).due("of(0, 1)", 2).due("of(0, 2)", 3).due("of(0, 3)", 1).due("of(0, 4)", 10)
                .due("of(1, 0)", 3).due("of(1, 1)", 300).due("of(1, 2)", 127).due("of(1, 3)", 15).due("of(1, 4)", 364);
        Doc.says("BEYOND: no such person, or another what.");
        two().allDue(Due.BEYOND, "of(2, 0)", "of(7, 0)", "of(8, 0)", "of(-1, 0)", "of(MIN, 0)", "of(MAX, 0)",
                "of(0, -1)", "of(0, 5)", "of(0, MIN)", "of(0, MAX)").does("undo()").due("of(1, 0)", Due.BEYOND);
    }

    private static void extend() throws Exception {
        Doc.chapter("Promise 5: extend");
        Doc.says("DUE DAY of a person becomes a later DAY: what it was.");
        two().due("extend(0, 11)", 10).due("of(0, 4)", 11).due("extend(0, 364)", 11).due("of(0, 4)", 364)
                .due("of(1, 4)", 364);
        new Run().does("person(0, 1, 0, 0, 0)").due("extend(0, 1)", 0);
        Doc.says("BEYOND.");
        two().allDue(Due.BEYOND, "extend(2, 20)", "extend(-1, 20)", "extend(MIN, 20)", "extend(MAX, 20)",
                "extend(0, 365)", "extend(0, -1)", "extend(0, MIN)", "extend(0, MAX)", "extend(1, 365)")
                .due("of(0, 4)", 10);
        Doc.says("SIZE: that is not later.");
        two().allDue(Due.SIZE, "extend(0, 10)", "extend(0, 9)", "extend(0, 0)", "extend(1, 364)", "extend(1, 363)")
                .due("of(0, 4)", 10);
    }

    private static void free() throws Exception {
        Doc.chapter("Promise 6: free");
        Doc.says("FREE of a person becomes a set: what it was.");
        two().due("free(0, 0)", 3).due("free(0, 127)", 0).due("free(0, 64)", 127).due("of(0, 2)", 64)
                .due("free(0, 64)", 64).due("of(1, 2)", 127);
        Doc.says("BEYOND.");
        two().allDue(Due.BEYOND, "free(2, 0)", "free(-1, 0)", "free(MIN, 0)", "free(MAX, 0)", "free(0, -1)",
                "free(0, 128)", "free(0, MIN)", "free(0, MAX)").due("of(0, 2)", 3);
    }

    private static void place() throws Exception {
        Doc.chapter("Promise 7: place");
        Doc.says("A new PLACE: its number.");
        new Run().due("place(0, 0, false, 1, 1)", 0).due("place(127, 15, true, 8, 8)", 1)
                .due("place(127, 15, true, 1, 8)", 2).due("told(1)", 3);
        Doc.says("BEYOND: sets, LEAST, MOST.");
        new Run().allDue(Due.BEYOND,
                "place(-1, 0, false, 1, 1)", "place(128, 0, false, 1, 1)", "place(MIN, 0, false, 1, 1)",
                "place(MAX, 0, false, 1, 1)", "place(0, -1, false, 1, 1)", "place(0, 16, false, 1, 1)",
                "place(0, MIN, false, 1, 1)", "place(0, MAX, false, 1, 1)",
                "place(0, 0, false, 0, 1)", "place(0, 0, false, -1, 1)", "place(0, 0, false, 9, 9)",
                "place(0, 0, false, 9, 8)", "place(0, 0, false, MIN, 1)", "place(0, 0, false, MAX, 1)",
                "place(0, 0, false, 1, 0)", "place(0, 0, false, 1, 9)", "place(0, 0, false, 1, -1)",
                "place(0, 0, false, 1, MIN)", "place(0, 0, false, 1, MAX)", "place(0, 0, true, 0, 0)")
                .due("told(1)", 0);
        Doc.says("SIZE: LEAST is above MOST.");
        new Run().allDue(Due.SIZE, "place(0, 0, false, 2, 1)", "place(127, 15, true, 8, 7)", "place(0, 0, true, 8, 1)")
                .due("told(1)", 0).due("place(0, 0, false, 7, 7)", 0);
        Doc.says("FULL: there are 3.");
        new Run().times(2, "place(127, #, false, 1, 8)").due("place(1, 2, true, 3, 4)", 2)
                .allDue(Due.FULL, "place(0, 0, false, 1, 1)", "place(127, 15, true, 8, 8)").due("told(1)", 3)
                .does("undo()").due("place(5, 0, false, 1, 1)", 2).due("place(5, 0, false, 1, 1)", Due.FULL)
                .due("open(2, 0)", 5);
    }

    private static void open() throws Exception {
        Doc.chapter("Promise 8: open");
        Run places = new Run().does("place(5, 0, false, 1, 1)", "place(6, 0, false, 1, 1)");
        Doc.says("OPEN of a PLACE becomes a set: what it was.");
        places.due("open(0, 0)", 5).due("open(0, 127)", 0).due("open(0, 64)", 127).due("open(0, 64)", 64)
                .due("open(1, 6)", 6);
        Doc.says("BEYOND.");
        places.allDue(Due.BEYOND, "open(2, 0)", "open(3, 0)", "open(-1, 0)", "open(MIN, 0)", "open(MAX, 0)",
                "open(0, -1)", "open(0, 128)", "open(0, MIN)", "open(0, MAX)").due("open(0, 1)", 64);
        new Run().times(3, "place(#, 0, false, 1, 1)").due("open(3, 0)", Due.BEYOND).due("open(2, 0)", 2);
    }

    private static void bar() throws Exception {
        Doc.chapter("Promise 9: bar");
        Doc.says("Two people are barred from one another, or not any more: 1 if that is new, else 0.");
        two().due("bar(0, 1, false)", 0).due("bar(0, 1, true)", 1).due("bar(0, 1, true)", 0).due("bar(1, 0, true)", 0)
                .due("told(4)", 1).due("bar(1, 0, false)", 1).due("bar(0, 1, false)", 0).due("told(4)", 0)
                .due("bar(1, 0, true)", 1).due("bar(0, 1, false)", 1);
        new Run().times(8, "person(0, 1, 0, 0, 0)").due("bar(0, 7, true)", 1).due("bar(7, 6, true)", 1)
                .due("bar(6, 0, true)", 1).due("told(4)", 3);
        Doc.says("BEYOND (either).");
        two().does("bar(0, 1, true)").allDue(Due.BEYOND, "bar(2, 0, true)", "bar(0, 2, true)", "bar(-1, 0, true)",
                "bar(0, -1, true)", "bar(2, 2, true)", "bar(-1, -1, true)", "bar(MIN, 0, false)", "bar(0, MAX, false)",
                "bar(32, 1, false)", "bar(0, 33, false)").due("told(4)", 1);
        Doc.says("SIZE: they are one.");
        two().does("bar(0, 1, true)").allDue(Due.SIZE, "bar(0, 0, true)", "bar(1, 1, true)", "bar(0, 0, false)",
                "bar(1, 1, false)").due("told(4)", 1);
    }
}
