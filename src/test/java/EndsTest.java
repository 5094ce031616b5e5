/** Promises 25 to 27: pace, foretold, late. */
public final class EndsTest {
    public static void main(String[] args) {
        pace();
        paceStart();
        paceOfNothing();
        foretold();
        foretoldFar();
        late();
        struckIsForgotten();
        eightPeople();
        wrongAsked();
        Due.end();
    }

    private static HoursDesk withTwo() {
        HoursDesk x = new HoursDesk();
        x.person(0, 2, 127, 0, 10);
        x.person(1, 3, 127, 0, 10);
        return x;
    }

    private static void paceIs(String what, HoursDesk x, int person, int day, int above, int below) {
        Due.is(what + ", above", x.pace(person, day, false), above);
        Due.is(what + ", below", x.pace(person, day, true), below);
    }

    private static void pace() {
        HoursDesk x = withTwo();
        paceIs("25: no entry", x, 0, 364, Due.NONE, Due.NONE);
        x.entry(0, 3, 12, 0, 3);
        paceIs("25: ahead of it", x, 0, 2, Due.NONE, Due.NONE);
        paceIs("25: on its day", x, 0, 3, 12, 1);
        paceIs("25: two days", x, 0, 4, 6, 1);
        paceIs("25: five days", x, 0, 7, 12, 5);
        paceIs("25: eight days", x, 0, 10, 3, 2);
        paceIs("25: the year", x, 0, 364, 6, 181);
        paceIs("25: other person", x, 1, 364, Due.NONE, Due.NONE);
    }

    private static void paceStart() {
        HoursDesk x = withTwo();
        x.entry(0, 9, 40, 0, 9);
        x.entry(0, 5, 20, 0, 11);
        x.entry(0, 1, 0, 0, 1);
        paceIs("25: earlier one not known", x, 0, 10, 20, 1);
        paceIs("25: earlier one known", x, 0, 11, 60, 7);
        x.entry(1, 0, 100, 0, 0);
        paceIs("25: another's entry", x, 0, 11, 60, 7);
        x.entry(0, 12, 24, 0, 12);
        paceIs("25: a later one not yet", x, 0, 11, 60, 7);
        paceIs("25: a later one", x, 0, 12, 21, 2);
    }

    private static void paceOfNothing() {
        HoursDesk x = withTwo();
        x.entry(0, 2, 0, 0, 2);
        paceIs("25: no minutes", x, 0, 9, Due.NONE, Due.NONE);
        x.entry(0, 4, 1, 2, 4);
        paceIs("25: minutes that don't count", x, 0, 9, 0, 1);
        Due.is("26: pace 0", x.foretold(0, 9), Due.NONE);
        Due.is("26: no pace", x.foretold(1, 9), Due.NONE);
    }

    private static void foretold() {
        HoursDesk x = withTwo();
        x.entry(0, 0, 40, 0, 0);
        Due.is("26: whole days", x.foretold(0, 0), 2);
        Due.is("26: slower", x.foretold(0, 1), 5);
        x.entry(0, 1, 79, 0, 1);
        Due.is("26: a part of a day", x.foretold(0, 1), 2);
        x.entry(0, 1, 1, 0, 1);
        Due.is("26: done", x.foretold(0, 1), 1);
        Due.is("26: done before", x.foretold(0, 300), 300);
        x.entry(1, 5, 100, 0, 7);
        Due.is("26: not known yet", x.foretold(1, 6), Due.NONE);
        Due.is("26: known late", x.foretold(1, 7), 10);
    }

    private static void foretoldFar() {
        HoursDesk x = new HoursDesk();
        x.person(0, 300, 127, 0, 364);
        x.entry(0, 0, 1, 0, 0);
        Due.is("26: above 364", x.foretold(0, 0), 17999);
        Due.is("26: far above", x.foretold(0, 364), 364 + 17999 * 365);
        x.entry(0, 0, 6, 0, 0);
        Due.is("26: rounded up", x.foretold(0, 0), (17993 + 6) / 7);
    }

    private static void late() {
        HoursDesk x = withTwo();
        Due.is("27: nobody foretold", x.late(0), 2);
        x.entry(0, 0, 12, 0, 0);
        Due.is("27: on the due day", x.late(0), 1);
        Due.is("27: foretold", x.foretold(0, 0), 9);
        x.strike();
        x.entry(0, 0, 11, 0, 0);
        Due.is("27: foretold 10", x.foretold(0, 0), 10);
        Due.is("27: on the very day", x.late(0), 1);
        x.strike();
        x.entry(0, 0, 10, 0, 0);
        Due.is("27: foretold 11", x.foretold(0, 0), 11);
        Due.is("27: behind it", x.late(0), 2);
        x.extend(0, 11);
        Due.is("27: extended", x.late(0), 1);
        x.entry(0, 12, 110, 0, 12);
        Due.is("27: foretold is 12", x.foretold(0, 12), 12);
        Due.is("27: done behind the due day", x.late(12), 1);
        Due.is("27: done long ago", x.late(364), 1);
        Due.is("27: not done a day before", x.late(11), 2);
        Due.is("27: nobody there", new HoursDesk().late(0), 0);
    }

    private static void struckIsForgotten() {
        HoursDesk x = withTwo();
        x.entry(0, 5, 10, 0, 5);
        x.entry(0, 1, 10, 0, 1);
        paceIs("25: from the first", x, 0, 6, 10, 3);
        x.strike();
        paceIs("25: the first was struck", x, 0, 6, 5, 1);
        x.undo();
        paceIs("25: the first came back", x, 0, 6, 10, 3);
        x.undo();
        x.undo();
        x.undo();
        paceIs("25: no entry any more", x, 0, 6, Due.NONE, Due.NONE);
        for (int i = 0; i < 60; i++) {
            x.entry(0, 300 - i, 1, 0, 300);
        }
        paceIs("25: sixty entries", x, 0, 300, 1, 1);
    }

    private static void eightPeople() {
        HoursDesk x = new HoursDesk();
        for (int i = 0; i < 8; i++) {
            x.person(0, 1, 0, 0, 100 + i);
        }
        Due.is("27: all eight", x.late(0), 8);
        x.undo();
        Due.is("27: seven", x.late(0), 7);
        for (int i = 0; i < 7; i++) {
            x.entry(i, 0, 30, 0, 0);
        }
        Due.is("27: foretold in time", x.late(0), 0);
        Due.is("27: foretold 103", x.foretold(0, 51), 103);
        Due.is("27: three are behind", x.late(51), 3);
    }

    private static void wrongAsked() {
        HoursDesk x = withTwo();
        int[][] wrong = {{2, 0}, {-1, 0}, {0, 365}, {0, -1}};
        for (int[] w : wrong) {
            Due.is("25: pace", x.pace(w[0], w[1], true), Due.BEYOND);
            Due.is("26: foretold", x.foretold(w[0], w[1]), Due.BEYOND);
        }
        Due.is("27: day 365", x.late(365), Due.BEYOND);
        Due.is("27: day -1", x.late(-1), Due.BEYOND);
    }
}
