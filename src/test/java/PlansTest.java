/** Promises 16 to 20: plan, planned, gang, plans, when. */
public final class PlansTest {
    public static void main(String[] args) {
        firstOfSeveral();
        mostBeforeFirst();
        wholeOrNone();
        leaders();
        skills();
        weekdays();
        doneAheadOfTheDay();
        bars();
        everyoneAnywhere();
        when();
        wrongAsked();
        Due.end();
    }

    private static HoursDesk people(int n) {
        HoursDesk x = new HoursDesk();
        for (int i = 0; i < n; i++) {
            x.person(0, 1, 127, 0, 100);
        }
        return x;
    }

    private static void planIs(String what, HoursDesk x, int day, int... want) {
        int most = 0;
        int[] size = new int[3];
        for (int p = 0; p < want.length; p++) {
            Due.is(what + ": planned(" + day + ", " + p + ")", x.planned(day, p), want[p] < 0 ? Due.NONE : want[p]);
            if (want[p] >= 0) {
                most++;
                size[want[p]]++;
            }
        }
        Due.is(what + ": plan", x.plan(day), most);
        for (int place = 0; place < x.told(1); place++) {
            Due.is(what + ": gang of " + place, x.gang(day, place), size[place]);
        }
    }

    private static void firstOfSeveral() {
        HoursDesk x = people(3);
        x.place(127, 0, false, 1, 1);
        x.place(127, 0, false, 1, 1);
        planIs("17: first", x, 0, 0, 1, -1);
        Due.is("19: six plans", x.plans(0), 6);
        x.place(127, 0, false, 1, 2);
        planIs("17: none is last", x, 0, 0, 1, 2);
        Due.is("19: three places", x.plans(0), 6 + 3 + 3);
    }

    private static void mostBeforeFirst() {
        HoursDesk x = people(4);
        x.place(127, 0, false, 2, 3);
        x.place(127, 0, false, 2, 2);
        planIs("16: most people", x, 1, 0, 0, 1, 1);
        Due.is("19: pairs", x.plans(1), 6);
        x.free(0, 0);
        planIs("16: one is not free", x, 1, -1, 0, 0, 0);
        Due.is("19: three at one place", x.plans(1), 1);
    }

    private static void wholeOrNone() {
        HoursDesk x = people(3);
        x.place(127, 0, false, 4, 8);
        planIs("16: gang not whole", x, 0, -1, -1, -1);
        Due.is("19: the empty plan", x.plans(0), 1);
        x.person(0, 1, 127, 0, 0);
        planIs("16: gang whole", x, 0, 0, 0, 0, 0);
        Due.is("19: one plan", x.plans(0), 1);
        x.place(127, 0, false, 1, 1);
        planIs("16: all at one place", x, 0, 0, 0, 0, 0);
        x.person(0, 1, 127, 0, 0);
        planIs("16: one may go elsewhere", x, 0, 0, 0, 0, 0, 0);
        Due.is("19: all, or one elsewhere", x.plans(0), 6);
    }

    private static void leaders() {
        HoursDesk x = people(2);
        x.place(127, 0, true, 1, 2);
        planIs("16: no leader", x, 0, -1, -1);
        x.person(1, 1, 127, 0, 0);
        x.person(3, 1, 127, 0, 0);
        planIs("16: young ones lead not", x, 0, -1, -1, -1, -1);
        x.person(2, 1, 1, 15, 0);
        planIs("16: leader", x, 0, 0, -1, -1, -1, 0);
        Due.is("19: whom the leader takes", x.plans(0), 4);
        planIs("16: leader not free", x, 1, -1, -1, -1, -1, -1);
    }

    private static void skills() {
        HoursDesk x = new HoursDesk();
        x.person(0, 1, 127, 5, 0);
        x.person(0, 1, 127, 4, 0);
        x.person(0, 1, 127, 15, 0);
        x.place(127, 5, false, 1, 8);
        planIs("16: all skills asked", x, 0, 0, -1, 0);
        x.place(127, 10, false, 1, 8);
        planIs("17: first place", x, 0, 0, -1, 0);
        Due.is("19: two", x.plans(0), 2);
        x.place(127, 0, false, 3, 3);
        planIs("16: no skill asked", x, 0, 2, 2, 2);
        Due.is("19: one", x.plans(0), 1);
    }

    private static void weekdays() {
        HoursDesk x = new HoursDesk();
        x.person(0, 300, 3, 0, 0);
        x.person(0, 300, 66, 0, 0);
        x.place(65, 0, false, 1, 8);
        x.place(2, 0, false, 1, 8);
        int[][] want = {{0, -1}, {1, 1}, {-1, -1}, {-1, -1}, {-1, -1}, {-1, -1}, {-1, 0}};
        for (int day = 0; day <= 364; day++) {
            planIs("16: weekday", x, day, want[day % 7]);
        }
        Due.is("8: open by week", x.open(1, 0), 2);
        planIs("16: closed now", x, 1, -1, -1);
        Due.is("6: free by week", x.free(1, 1), 66);
        planIs("16: free now", x, 0, 0, 0);
    }

    private static void doneAheadOfTheDay() {
        HoursDesk x = people(1);
        x.place(127, 0, false, 1, 1);
        x.entry(0, 4, 59, 0, 4);
        x.entry(0, 5, 1, 0, 7);
        Due.is("16: done on the day itself", x.plan(5), 1);
        Due.is("16: not known yet", x.plan(6), 1);
        Due.is("16: known, done", x.plan(7), 0);
        Due.is("17: given none", x.planned(7, 0), Due.NONE);
        x.entry(0, 0, 60, 0, 0);
        Due.is("16: day 0", x.plan(0), 1);
        Due.is("16: done on day 1", x.plan(1), 0);
        x.strike();
        Due.is("16: not done again", x.plan(1), 1);
        x.entry(0, 1, 60, 1, 1);
        Due.is("16: done by travel", x.plan(2), 0);
        x.rule(0, 0);
        Due.is("16: not by another rule", x.plan(2), 1);
        x.undo();
        Due.is("16: undone", x.plan(2), 0);
    }

    private static void bars() {
        HoursDesk x = people(3);
        x.place(127, 0, false, 2, 3);
        x.bar(0, 1, true);
        planIs("16: two of three", x, 0, 0, -1, 0);
        Due.is("19: either", x.plans(0), 2);
        x.bar(2, 0, true);
        planIs("16: one pair left", x, 0, -1, 0, 0);
        x.place(127, 0, false, 1, 1);
        planIs("16: apart", x, 0, 1, 0, 0);
        x.bar(1, 0, false);
        planIs("16: not barred any more", x, 0, 0, 0, 1);
    }

    private static void everyoneAnywhere() {
        HoursDesk x = people(8);
        x.place(127, 0, false, 1, 8);
        x.place(127, 0, false, 1, 8);
        x.place(127, 0, false, 1, 8);
        planIs("16: all at the first", x, 0, 0, 0, 0, 0, 0, 0, 0, 0);
        Due.is("19: three to the eighth", x.plans(0), 6561);
        HoursDesk y = people(8);
        y.place(127, 0, false, 3, 3);
        y.place(127, 0, false, 2, 3);
        y.place(127, 0, false, 2, 2);
        planIs("16: three gangs", y, 0, 0, 0, 0, 1, 1, 1, 2, 2);
        Due.is("19: three gangs", y.plans(0), 560);
        HoursDesk z = people(8);
        z.place(127, 0, false, 1, 1);
        z.place(127, 0, false, 1, 1);
        z.place(127, 0, false, 1, 1);
        planIs("16: three of eight", z, 0, 0, 1, 2, -1, -1, -1, -1, -1);
        Due.is("19: three of eight", z.plans(0), 336);
    }

    private static void when() {
        HoursDesk x = new HoursDesk();
        x.person(0, 300, 64, 0, 0);
        x.person(0, 300, 96, 0, 0);
        x.place(127, 0, false, 1, 8);
        Due.is("20: the first with one", x.when(0, 1), 5);
        Due.is("20: the first with two", x.when(0, 2), 6);
        Due.is("20: three", x.when(0, 3), Due.NONE);
        Due.is("20: on the day itself", x.when(6, 2), 6);
        Due.is("20: six later", x.when(7, 2), 13);
        x.free(0, 1);
        x.free(1, 1);
        Due.is("20: no later than six", x.when(1, 1), 7);
        Due.is("20: day 364", x.when(364, 2), 364);
        Due.is("20: up to 364", x.when(358, 1), 364);
        x.free(0, 2);
        x.free(1, 2);
        Due.is("20: not above 364", x.when(360, 1), Due.NONE);
        Due.is("20: above 364 by one", x.when(364, 1), Due.NONE);
        Due.is("20: ends at 364", x.when(358, 1), 358);
        x.open(0, 0);
        Due.is("20: none open", x.when(0, 1), Due.NONE);
        HoursDesk y = people(8);
        y.place(127, 0, false, 8, 8);
        Due.is("20: eight", y.when(3, 8), 3);
        Due.is("20: at least", y.when(3, 1), 3);
        Due.is("20: n 0", y.when(3, 0), Due.BEYOND);
        Due.is("20: n 9", y.when(3, 9), Due.BEYOND);
        Due.is("20: day 365", y.when(365, 1), Due.BEYOND);
        Due.is("20: day -1", y.when(-1, 1), Due.BEYOND);
    }

    private static void wrongAsked() {
        HoursDesk x = people(1);
        x.place(127, 0, false, 1, 1);
        for (int day : new int[] {-1, 365, Integer.MIN_VALUE, Integer.MAX_VALUE}) {
            Due.is("16: day", x.plan(day), Due.BEYOND);
            Due.is("17: day", x.planned(day, 0), Due.BEYOND);
            Due.is("18: day", x.gang(day, 0), Due.BEYOND);
            Due.is("19: day", x.plans(day), Due.BEYOND);
        }
        Due.is("17: no such person", x.planned(0, 1), Due.BEYOND);
        Due.is("17: person -1", x.planned(0, -1), Due.BEYOND);
        Due.is("18: no such place", x.gang(0, 1), Due.BEYOND);
        Due.is("18: place -1", x.gang(0, -1), Due.BEYOND);
        Due.is("17: right", x.planned(364, 0), 0);
        Due.is("18: right", x.gang(364, 0), 1);
    }
}
