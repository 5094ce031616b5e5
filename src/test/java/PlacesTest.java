/** Promises 7 and 8: place, open. */
public final class PlacesTest {
    public static void main(String[] args) {
        place();
        open();
        Due.end();
    }

    private static void place() {
        HoursDesk x = new HoursDesk();
        Due.is("7: open -1", x.place(-1, 0, false, 1, 1), Due.BEYOND);
        Due.is("7: open 128", x.place(128, 0, false, 1, 1), Due.BEYOND);
        Due.is("7: asks -1", x.place(0, -1, false, 1, 1), Due.BEYOND);
        Due.is("7: asks 16", x.place(0, 16, false, 1, 1), Due.BEYOND);
        Due.is("7: least 0", x.place(0, 0, false, 0, 1), Due.BEYOND);
        Due.is("7: least 9", x.place(0, 0, false, 9, 8), Due.BEYOND);
        Due.is("7: most 9", x.place(0, 0, false, 1, 9), Due.BEYOND);
        Due.is("7: most 0", x.place(0, 0, false, 1, 0), Due.BEYOND);
        Due.is("7: least above most", x.place(0, 0, false, 5, 4), Due.SIZE);
        Due.is("7: none came", x.told(1), 0);
        Due.is("7: least of all", x.place(0, 0, false, 1, 1), 0);
        Due.is("7: most of all", x.place(127, 15, true, 8, 8), 1);
        Due.is("7: third", x.place(127, 0, true, 1, 8), 2);
        Due.is("7: full", x.place(0, 0, false, 1, 1), Due.FULL);
        Due.is("7: size ahead of full", x.place(0, 0, false, 2, 1), Due.SIZE);
        Due.is("7: beyond ahead of full", x.place(0, 16, false, 1, 1), Due.BEYOND);
        Due.is("7: three", x.told(1), 3);
    }

    private static void open() {
        HoursDesk x = new HoursDesk();
        x.place(5, 0, false, 1, 1);
        x.place(6, 0, false, 1, 1);
        Due.is("8: what it was", x.open(0, 127), 5);
        Due.is("8: what it became", x.open(0, 0), 127);
        Due.is("8: other place", x.open(1, 6), 6);
        Due.is("8: set 128", x.open(0, 128), Due.BEYOND);
        Due.is("8: set -1", x.open(0, -1), Due.BEYOND);
        Due.is("8: no such place", x.open(2, 0), Due.BEYOND);
        Due.is("8: place -1", x.open(-1, 0), Due.BEYOND);
        Due.is("8: nothing changed", x.open(0, 1), 0);
    }
}
