/** Promises 21 to 24: absent, reason, breaches, court. */
public final class AbsencesTest {
    public static void main(String[] args) {
        absent();
        absentIsFull();
        reason();
        breaches();
        courtDays();
        courtByReasons();
        courtIsFirst();
        courtOfThirty();
        Due.end();
    }

    private static HoursDesk withTwo() {
        HoursDesk x = new HoursDesk();
        x.person(0, 2, 127, 0, 10);
        x.person(1, 3, 127, 0, 10);
        return x;
    }

    private static void absent() {
        HoursDesk x = withTwo();
        Due.is("21: no such person", x.absent(2, 0), Due.BEYOND);
        Due.is("21: person -1", x.absent(-1, 0), Due.BEYOND);
        Due.is("21: day 365", x.absent(0, 365), Due.BEYOND);
        Due.is("21: day -1", x.absent(0, -1), Due.BEYOND);
        Due.is("21: first", x.absent(0, 0), 0);
        Due.is("21: same day", x.absent(0, 0), Due.SIZE);
        Due.is("21: another person", x.absent(1, 0), 1);
        Due.is("21: another day", x.absent(0, 364), 2);
        Due.is("21: three", x.told(3), 3);
    }

    private static void absentIsFull() {
        HoursDesk x = withTwo();
        for (int i = 0; i < 30; i++) {
            Due.is("21: number", x.absent(0, i), i);
        }
        Due.is("21: full", x.absent(0, 30), Due.FULL);
        Due.is("21: size ahead of full", x.absent(0, 29), Due.SIZE);
        Due.is("21: beyond ahead of full", x.absent(2, 30), Due.BEYOND);
        Due.is("21: thirty", x.told(3), 30);
        Due.is("23: thirty", x.breaches(0, 364), 30);
    }

    private static void reason() {
        HoursDesk x = withTwo();
        x.absent(0, 10);
        x.absent(0, 20);
        Due.is("22: no such absence", x.reason(2, 30), Due.BEYOND);
        Due.is("22: absence -1", x.reason(-1, 30), Due.BEYOND);
        Due.is("22: day 365", x.reason(0, 365), Due.BEYOND);
        Due.is("22: day -2", x.reason(0, -2), Due.BEYOND);
        Due.is("22: ahead of it", x.reason(0, 9), Due.SIZE);
        Due.is("22: ahead of the second", x.reason(1, 19), Due.SIZE);
        Due.is("22: on its day", x.reason(0, 10), -1);
        Due.is("22: later", x.reason(0, 364), 10);
        Due.is("22: not at all", x.reason(0, -1), 364);
        Due.is("22: not at all again", x.reason(0, -1), -1);
        Due.is("22: -1 is no finding", x.told(5), 6);
    }

    private static void breaches() {
        HoursDesk x = withTwo();
        x.absent(0, 10);
        x.absent(0, 20);
        x.absent(1, 15);
        Due.is("23: ahead of the first", x.breaches(0, 9), 0);
        Due.is("23: on its day", x.breaches(0, 10), 1);
        Due.is("23: both", x.breaches(0, 20), 2);
        Due.is("23: other person", x.breaches(1, 364), 1);
        x.reason(0, 12);
        Due.is("23: not proved yet", x.breaches(0, 11), 1);
        Due.is("23: proved", x.breaches(0, 12), 0);
        Due.is("23: one left", x.breaches(0, 20), 1);
        x.reason(0, -1);
        Due.is("23: not any more", x.breaches(0, 20), 2);
        x.reason(0, 10);
        Due.is("23: proved at once", x.breaches(0, 10), 0);
        Due.is("23: no such person", x.breaches(2, 0), Due.BEYOND);
        Due.is("23: person -1", x.breaches(-1, 0), Due.BEYOND);
        Due.is("23: day 365", x.breaches(0, 365), Due.BEYOND);
        Due.is("23: day -1", x.breaches(0, -1), Due.BEYOND);
    }

    private static void courtDays() {
        HoursDesk x = withTwo();
        x.absent(0, 100);
        Due.is("24: one alone", x.court(0, 364), Due.NONE);
        x.absent(0, 129);
        Due.is("24: 29 days", x.court(0, 364), Due.NONE);
        x.absent(1, 128);
        Due.is("24: another person's", x.court(0, 364), Due.NONE);
        Due.is("24: other person", x.court(1, 364), Due.NONE);
        x.absent(0, 157);
        Due.is("24: 28 days", x.court(0, 364), 157);
        Due.is("24: on its day", x.court(0, 157), 157);
        Due.is("24: ahead of its day", x.court(0, 156), Due.NONE);
        x.absent(0, 101);
        Due.is("24: the next day", x.court(0, 364), 101);
        Due.is("24: no such person", x.court(2, 0), Due.BEYOND);
        Due.is("24: person -1", x.court(-1, 0), Due.BEYOND);
        Due.is("24: day 365", x.court(0, 365), Due.BEYOND);
        Due.is("24: day -1", x.court(0, -1), Due.BEYOND);
    }

    private static void courtByReasons() {
        HoursDesk x = withTwo();
        x.absent(0, 1);
        x.absent(0, 2);
        x.absent(0, 40);
        x.absent(0, 50);
        x.reason(0, 45);
        Due.is("24: not proved yet", x.court(0, 44), 2);
        Due.is("24: proved, none yet", x.court(0, 45), Due.NONE);
        Due.is("24: proved late", x.court(0, 50), 50);
        x.reason(3, 50);
        Due.is("24: its own reason", x.court(0, 364), Due.NONE);
        x.reason(0, -1);
        Due.is("24: not proved any more", x.court(0, 364), 2);
    }

    private static void courtIsFirst() {
        HoursDesk x = withTwo();
        x.absent(0, 300);
        x.absent(0, 290);
        x.absent(0, 10);
        x.absent(0, 5);
        Due.is("24: first day, not first told", x.court(0, 364), 10);
        Due.is("24: day 0 counts", x.absent(0, 0), 4);
        Due.is("24: first of three", x.court(0, 364), 5);
        x.undo();
        Due.is("24: day 0 is undone", x.court(0, 364), 10);
        x.undo();
        Due.is("24: day 5 is undone", x.court(0, 364), 300);
    }

    private static void courtOfThirty() {
        HoursDesk x = withTwo();
        x.person(2, 3, 127, 0, 10);
        for (int i = 0; i < 30; i++) {
            Due.is("24: thirty of three", x.absent(i / 10, 364 - 29 * (i % 10)), i);
        }
        for (int p = 0; p < 3; p++) {
            Due.is("24: all 29 days apart", x.court(p, 364), Due.NONE);
        }
        x.undo();
        x.absent(2, 104);
        Due.is("24: the thirtieth is 28 days ahead", x.court(2, 364), 132);
        Due.is("24: not of another", x.court(1, 364), Due.NONE);
    }
}
