/** The edges that promises 28 to 31 name, sentence by sentence. */
public final class EdgesOfSheetsTest {
    public static void main(String[] args) throws Exception {
        sheet();
        put();
        copy();
        lay();
        Doc.end();
    }

    private static Run one() {
        return new Run().does("person(0, 300, 127, 0, 10)");
    }

    /** Numbers are seen by laying them: minutes of DAYS from 0 on; what is left out leaves a DAY of 0. */
    private static void numbersAre(Run run, int s, int... minutes) {
        run.does("lay(0, 0, " + s + ")");
        for (int i = 0; i < minutes.length; i++) {
            run.due("countedOn(0, " + i + ", " + i + ")", minutes[i]);
        }
        run.due("countedOn(0, " + minutes.length + ", 364)", 0);
        run.does("undo()");
    }

    private static void sheet() throws Exception {
        Doc.chapter("Promise 28: sheet");
        Doc.says("A sheet has n numbers, all 0, of 8, 16 or 32 bits; bits 0: it is MISSING: n (0).");
        Run run = one().due("sheet(0, 8, 20)", 20).due("sheet(1, 16, 1)", 1).due("sheet(2, 32, 0)", 0)
                .due("sheet(3, 8, 20)", 20);
        run.due("put(0, 19, 7)", 0).due("put(0, 0, 7)", 0).due("lay(0, 0, 0)", 20).does("undo()")
                .due("sheet(0, 8, 20)", 20);
        numbersAre(run, 0, new int[20]);
        run.does("put(0, 2, 5)").due("sheet(0, 8, 2)", 2).due("put(0, 2, 1)", Due.BEYOND).due("sheet(0, 8, 3)", 3);
        numbersAre(run, 0, 0, 0, 0);
        run.due("put(2, 0, 0)", Due.BEYOND).due("lay(0, 364, 2)", 0).due("copy(2, 0, 2, 0, 0)", 0);
        run.due("sheet(0, 0, 0)", 0).due("put(0, 0, 0)", Due.MISSING).due("sheet(0, 0, 20)", 0)
                .due("put(0, 0, 0)", Due.MISSING).due("sheet(1, 0, 5)", 0).due("lay(0, 0, 1)", Due.MISSING)
                .due("sheet(0, 32, 1)", 1).due("put(0, 0, 0)", 0);
        Doc.says("BEYOND: no such sheet, or bits.");
        one().does("sheet(0, 8, 2)").allDue(Due.BEYOND, "sheet(-1, 8, 1)", "sheet(4, 8, 1)", "sheet(MIN, 8, 1)",
                "sheet(MAX, 8, 1)", "sheet(0, -8, 1)", "sheet(0, 1, 1)", "sheet(0, 7, 1)", "sheet(0, 9, 1)",
                "sheet(0, 15, 1)", "sheet(0, 17, 1)", "sheet(0, 24, 1)", "sheet(0, 31, 1)", "sheet(0, 33, 1)",
                "sheet(0, 64, 1)", "sheet(0, -1, 1)", "sheet(0, MIN, 1)", "sheet(0, MAX, 1)", "sheet(0, 40, 0)");
        Doc.says("SIZE: n is below 0.");
        one().does("sheet(0, 8, 2)").allDue(Due.SIZE, "sheet(0, 8, -1)", "sheet(0, 16, -1)", "sheet(1, 32, MIN)",
                "sheet(0, 0, -1)");
        Doc.says("BEYOND: n is above 20.");
        one().does("sheet(0, 8, 2)").allDue(Due.BEYOND, "sheet(0, 8, 21)", "sheet(0, 16, 21)", "sheet(1, 32, MAX)",
                "sheet(0, 0, 21)");
    }

    private static void put() throws Exception {
        Doc.chapter("Promise 29: put");
        Doc.says("Number i of a sheet becomes v (its lowest bits): 0.");
        Run eight = one().due("sheet(0, 8, 9)", 9).due("put(0, 0, 127)", 0).due("put(0, 1, 128)", 0)
                .due("put(0, 2, 255)", 0).due("put(0, 3, 256)", 0).due("put(0, 4, 257)", 0).due("put(0, 5, -128)", 0)
                .due("put(0, 6, -129)", 0).due("put(0, 7, MIN)", 0).due("put(0, 8, MAX)", 0).due("lay(0, 20, 0)", 5)
                .does("undo()");
        numbersAre(eight, 0, 127, 0, 0, 0, 1, 0, 127, 0, 0);
        Run sixteen = one().due("sheet(0, 16, 9)", 9).due("put(0, 0, 32767)", 0).due("put(0, 1, 32768)", 0)
                .due("put(0, 2, 65535)", 0).due("put(0, 3, 65536)", 0).due("put(0, 4, 65537)", 0)
                .due("put(0, 5, -65537)", 0).due("put(0, 6, -65535)", 0).due("put(0, 7, 256)", 0)
                .due("put(0, 8, MIN)", 0).due("lay(0, 20, 0)", 5).does("undo()");
        numbersAre(sixteen, 0, 0, 0, 0, 0, 1, 0, 1, 256, 0);
        Run all = one().due("sheet(0, 32, 6)", 6).due("put(0, 0, 65537)", 0).due("put(0, 1, MIN)", 0)
                .due("put(0, 2, MAX)", 0).due("put(0, 3, 480)", 0).due("put(0, 4, -1)", 0).due("put(0, 5, 0)", 0)
                .due("lay(0, 20, 0)", 2).does("undo()");
        numbersAre(all, 0, 0, 0, 0, 480, 0, 0);
        Run twenty = one().does("sheet(3, 16, 20)").due("put(3, 0, 1)", 0).due("put(3, 19, 2)", 0)
                .due("put(3, 19, 3)", 0);
        numbersAre(twenty, 3, 1, 0, 0, 0, 0, 0, 0, 0, 0, 0, 0, 0, 0, 0, 0, 0, 0, 0, 0, 3);
        Doc.says("BEYOND: no such sheet.");
        one().times(4, "sheet(#, 8, 1)").allDue(Due.BEYOND, "put(-1, 0, 1)", "put(4, 0, 1)", "put(MIN, 0, 1)",
                "put(MAX, 0, 1)");
        Doc.says("MISSING.");
        one().allDue(Due.MISSING, "put(0, 0, 1)", "put(3, 0, 1)").does("sheet(0, 8, 1)").due("put(0, 0, 1)", 0)
                .due("put(1, 0, 1)", Due.MISSING).does("sheet(0, 0, 1)").due("put(0, 0, 1)", Due.MISSING);
        Doc.says("BEYOND: no such number.");
        one().does("sheet(0, 8, 3)", "sheet(1, 8, 0)", "sheet(2, 8, 20)").allDue(Due.BEYOND, "put(0, -1, 1)",
                "put(0, 3, 1)", "put(0, MIN, 1)", "put(0, MAX, 1)", "put(1, 0, 1)", "put(1, -1, 1)", "put(2, 20, 1)")
                .due("put(0, 2, 1)", 0).due("put(2, 19, 1)", 0);
    }

    /** Sheet 0 of 10, 11, .. 14; sheet 1 of as many bits, with three numbers 0. */
    private static Run five() {
        return one().does("sheet(0, 16, 5)", "sheet(1, 16, 3)", "put(0, 0, 10)", "put(0, 1, 11)", "put(0, 2, 12)",
                "put(0, 3, 13)", "put(0, 4, 14)");
    }

    private static void copy() throws Exception {
        Doc.chapter("Promise 30: copy");
        Doc.says("n numbers of a sheet from one on come to another one from one on: n.");
        numbersAre(five().due("copy(0, 0, 1, 0, 3)", 3), 1, 10, 11, 12);
        numbersAre(five().due("copy(0, 2, 1, 0, 3)", 3), 1, 12, 13, 14);
        numbersAre(five().due("copy(0, 4, 1, 2, 1)", 1), 1, 0, 0, 14);
        numbersAre(five().due("copy(0, 0, 0, 1, 4)", 4), 0, 10, 10, 11, 12, 13);
        numbersAre(five().due("copy(0, 1, 0, 0, 4)", 4), 0, 11, 12, 13, 14, 14);
        numbersAre(five().due("copy(0, 0, 0, 0, 5)", 5), 0, 10, 11, 12, 13, 14);
        numbersAre(five().due("copy(0, 5, 1, 3, 0)", 0).due("copy(0, 0, 1, 0, 0)", 0), 1, 0, 0, 0);
        numbersAre(five().due("copy(1, 0, 0, 2, 3)", 3), 0, 10, 11, 0, 0, 0);
        one().does("sheet(2, 32, 20)", "sheet(3, 32, 20)", "put(2, 19, 9)").due("copy(2, 0, 3, 0, 20)", 20)
                .does("lay(0, 0, 3)").due("countedOn(0, 19, 19)", 9);
        one().does("sheet(0, 8, 0)").due("copy(0, 0, 0, 0, 0)", 0);
        Doc.says("BEYOND: no such sheet (either).");
        five().allDue(Due.BEYOND, "copy(-1, 0, 0, 0, 1)", "copy(4, 0, 0, 0, 1)", "copy(0, 0, -1, 0, 1)",
                "copy(0, 0, 4, 0, 1)", "copy(MIN, 0, 0, 0, 0)", "copy(0, 0, MAX, 0, 0)", "copy(4, 0, 4, 0, 0)");
        Doc.says("MISSING: one is.");
        five().allDue(Due.MISSING, "copy(0, 0, 2, 0, 1)", "copy(2, 0, 0, 0, 1)", "copy(2, 0, 2, 0, 0)",
                "copy(2, 0, 3, 0, 0)", "copy(3, 0, 1, 0, 0)").does("sheet(1, 0, 0)").due("copy(0, 0, 1, 0, 1)", Due.MISSING);
        Doc.says("KIND: they are not of as many bits.");
        five().does("sheet(2, 8, 5)", "sheet(3, 32, 5)").allDue(Due.KIND, "copy(0, 0, 2, 0, 1)", "copy(2, 0, 0, 0, 1)",
                "copy(0, 0, 3, 0, 1)", "copy(3, 0, 2, 0, 1)", "copy(2, 0, 3, 0, 0)").does("sheet(2, 16, 5)")
                .due("copy(0, 0, 2, 0, 5)", 5);
        Doc.says("BEYOND: one has not so many, or from, to or n is below 0.");
        five().allDue(Due.BEYOND, "copy(0, 0, 1, 0, 4)", "copy(1, 0, 0, 0, 4)", "copy(0, 0, 0, 0, 6)",
                "copy(0, 3, 1, 0, 3)", "copy(0, 0, 1, 1, 3)", "copy(0, 5, 1, 0, 1)", "copy(0, 0, 1, 3, 1)",
                "copy(0, 6, 1, 0, 0)", "copy(0, 0, 1, 4, 0)", "copy(0, -1, 1, 0, 1)", "copy(0, 0, 1, -1, 1)",
                "copy(0, 1, 1, 1, -1)", "copy(0, 0, 1, 0, MIN)", "copy(0, MIN, 1, 0, 1)", "copy(0, 0, 1, MIN, 1)",
                "copy(0, MAX, 1, 0, 1)", "copy(0, 0, 1, MAX, 1)", "copy(0, 0, 1, 0, MAX)", "copy(0, 1, 1, 1, MAX)",
                "copy(0, MAX, 1, MAX, MAX)", "copy(0, MAX, 1, 0, MIN)", "copy(0, 2, 1, 0, 2147483646)");
    }

    private static void lay() throws Exception {
        Doc.chapter("Promise 31: lay");
        layNumbers();
        Doc.says("BEYOND: no such person, DAY, or sheet.");
        five().allDue(Due.BEYOND, "lay(1, 0, 0)", "lay(-1, 0, 0)", "lay(MIN, 0, 0)", "lay(MAX, 0, 0)", "lay(0, -1, 0)",
                "lay(0, 365, 0)", "lay(0, MIN, 0)", "lay(0, MAX, 0)", "lay(0, 0, -1)", "lay(0, 0, 4)", "lay(0, 0, MIN)",
                "lay(0, 0, MAX)").does("sheet(1, 8, 0)").due("lay(0, 365, 1)", Due.BEYOND);
        Doc.says("MISSING.");
        five().allDue(Due.MISSING, "lay(0, 0, 2)", "lay(0, 364, 3)").does("sheet(0, 0, 0)")
                .due("lay(0, 0, 0)", Due.MISSING).due("told(2)", 0);
        Doc.says("BEYOND: there is no DAY for some number.");
        five().due("lay(0, 361, 0)", Due.BEYOND).due("lay(0, 364, 0)", Due.BEYOND).due("told(2)", 0)
                .due("lay(0, 360, 0)", 5).due("countedOn(0, 364, 364)", 14)
                .does("sheet(2, 8, 1)").due("lay(0, 364, 2)", 1).does("sheet(2, 8, 2)").due("lay(0, 364, 2)", Due.BEYOND)
                .does("put(2, 1, -1)").due("lay(0, 364, 2)", Due.BEYOND).due("lay(0, 363, 2)", 1)
                .does("sheet(2, 8, 0)").due("lay(0, 364, 2)", 0)
                .does("sheet(2, 8, 20)").due("lay(0, 346, 2)", Due.BEYOND).due("lay(0, 345, 2)", 20);
        Doc.says("FULL: there would be more than 60.");
        Run full = one().times(55, "entry(0, #, 1, 0, #)").does("sheet(0, 16, 6)");
        full.due("lay(0, 100, 0)", Due.FULL).due("told(2)", 55).does("put(0, 0, 901)").due("lay(0, 100, 0)", 5)
                .due("told(2)", 60).due("lay(0, 100, 0)", Due.FULL).does("sheet(1, 8, 1)").due("lay(0, 0, 1)", Due.FULL)
                .does("put(1, 0, -1)").due("lay(0, 0, 1)", 0).does("sheet(1, 8, 0)").due("lay(0, 0, 1)", 0)
                .due("told(2)", 60);
        one().does("sheet(0, 8, 20)").due("lay(0, 0, 0)", 20).due("lay(0, 0, 0)", 20).due("lay(0, 0, 0)", 20)
                .due("lay(0, 0, 0)", Due.FULL).does("strike()").due("lay(0, 0, 0)", Due.FULL).due("told(2)", 59);
    }

    private static void layNumbers() {
        Doc.says("ENTRIES of WORK of a person, from a DAY on, one for each number of a sheet, each KNOWN since its DAY;"
                + " numbers that are not 0 to 900 are left out (their DAY, too, goes by): how many came.");
        Run run = one().does("sheet(0, 32, 7)", "put(0, 0, 900)", "put(0, 1, 901)", "put(0, 2, 0)", "put(0, 3, -1)",
                "put(0, 4, MAX)", "put(0, 5, MIN)", "put(0, 6, 33)").due("lay(0, 10, 0)", 3).due("told(2)", 3);
        run.due("countedOn(0, 10, 10)", 480).due("countedOn(0, 10, 9)", 0).due("countedOn(0, 11, 364)", 0)
                .due("countedOn(0, 12, 364)", 0).due("countedOn(0, 13, 364)", 0).due("countedOn(0, 16, 16)", 33)
                .due("countedOn(0, 16, 15)", 0).due("countedOn(0, 9, 364)", 0).due("countedOn(0, 17, 364)", 0);
        run.does("rule(0, 0)", "rule(1, 0)").due("countedOn(0, 16, 16)", 33).due("strike()", 2)
                .due("countedOn(0, 16, 16)", 0).due("strike()", 1).due("countedOn(0, 10, 10)", 480);
        one().does("sheet(0, 8, 0)").due("lay(0, 0, 0)", 0).due("told(2)", 0);
        one().does("sheet(0, 8, 1)", "put(0, 0, -1)").due("lay(0, 0, 0)", 0).due("told(2)", 0);
        one().does("person(0, 1, 0, 0, 0)", "sheet(0, 8, 1)", "put(0, 0, 9)").due("lay(1, 0, 0)", 1)
                .due("counted(0, 364, 364)", 0).due("counted(1, 0, 0)", 9);
    }
}
