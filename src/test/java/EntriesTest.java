/** Promises 10 to 15: entry, strike, rule, counted, countedOn, left. */
public final class EntriesTest {
    public static void main(String[] args) {
        entry();
        entryIsFull();
        strike();
        rule();
        sorts();
        dayLimits();
        knownSince();
        manyDays();
        wrongAsked();
        left();
        Due.end();
    }

    private static HoursDesk withTwo() {
        HoursDesk x = new HoursDesk();
        x.person(0, 2, 127, 0, 10);
        x.person(1, 3, 127, 0, 10);
        return x;
    }

    private static void entry() {
        HoursDesk x = withTwo();
        Due.is("10: no such person", x.entry(2, 0, 0, 0, 0), Due.BEYOND);
        Due.is("10: person -1", x.entry(-1, 0, 0, 0, 0), Due.BEYOND);
        Due.is("10: day 365", x.entry(0, 365, 0, 0, 365), Due.BEYOND);
        Due.is("10: day -1", x.entry(0, -1, 0, 0, 0), Due.BEYOND);
        Due.is("10: minutes -1", x.entry(0, 0, -1, 0, 0), Due.BEYOND);
        Due.is("10: minutes 901", x.entry(0, 0, 901, 0, 0), Due.BEYOND);
        Due.is("10: sort -1", x.entry(0, 0, 0, -1, 0), Due.BEYOND);
        Due.is("10: sort 3", x.entry(0, 0, 0, 3, 0), Due.BEYOND);
        Due.is("10: known 365", x.entry(0, 0, 0, 0, 365), Due.BEYOND);
        Due.is("10: known -1", x.entry(0, 0, 0, 0, -1), Due.BEYOND);
        Due.is("10: known ahead of its day", x.entry(0, 6, 0, 0, 5), Due.SIZE);
        Due.is("10: beyond ahead of size", x.entry(0, 6, 901, 0, 5), Due.BEYOND);
        Due.is("10: none came", x.told(2), 0);
        Due.is("10: least", x.entry(0, 0, 0, 0, 0), 0);
        Due.is("10: most", x.entry(1, 364, 900, 2, 364), 1);
        Due.is("10: known later", x.entry(1, 6, 900, 2, 7), 2);
        Due.is("10: three", x.told(2), 3);
    }

    private static void entryIsFull() {
        HoursDesk x = withTwo();
        for (int i = 0; i < 60; i++) {
            Due.is("10: number", x.entry(0, i, 1, 0, i), i);
        }
        Due.is("10: full", x.entry(0, 0, 1, 0, 0), Due.FULL);
        Due.is("10: size ahead of full", x.entry(0, 1, 1, 0, 0), Due.SIZE);
        Due.is("10: beyond ahead of full", x.entry(0, 1, 1, 3, 1), Due.BEYOND);
        Due.is("10: all count", x.counted(0, 364, 364), 60);
        Due.is("10: struck", x.strike(), 59);
        Due.is("10: room again", x.entry(0, 0, 1, 0, 0), 59);
    }

    private static void strike() {
        HoursDesk x = withTwo();
        Due.is("11: none", x.strike(), Due.NONE);
        x.entry(0, 1, 100, 0, 1);
        x.entry(0, 1, 20, 0, 1);
        x.entry(1, 1, 7, 0, 1);
        Due.is("11: two left", x.strike(), 2);
        Due.is("11: the latest went", x.counted(1, 1, 1), 0);
        Due.is("11: others stay", x.counted(0, 1, 1), 120);
        Due.is("11: one left", x.strike(), 1);
        Due.is("11: first stays", x.counted(0, 1, 1), 100);
        Due.is("11: nothing left", x.strike(), 0);
        Due.is("11: none again", x.strike(), Due.NONE);
    }

    private static void rule() {
        HoursDesk x = withTwo();
        x.entry(0, 0, 200, 1, 0);
        x.entry(0, 1, 99, 2, 1);
        Due.is("12: T at first", x.rule(0, 300), 60);
        Due.is("12: counts by T", x.countedOn(0, 0, 0), 200);
        Due.is("12: T 0", x.rule(0, 0), 300);
        Due.is("12: nothing counts", x.countedOn(0, 0, 0), 0);
        Due.is("12: T 301", x.rule(0, 301), Due.BEYOND);
        Due.is("12: T -1", x.rule(0, -1), Due.BEYOND);
        Due.is("12: hundredths at first", x.rule(1, 33), 50);
        Due.is("12: cut", x.countedOn(0, 1, 1), 32);
        Due.is("12: all of it", x.rule(1, 100), 33);
        Due.is("12: all counts", x.countedOn(0, 1, 1), 99);
        Due.is("12: none of it", x.rule(1, 0), 100);
        Due.is("12: no rain counts", x.countedOn(0, 1, 1), 0);
        Due.is("12: hundredths 101", x.rule(1, 101), Due.BEYOND);
        Due.is("12: hundredths -1", x.rule(1, -1), Due.BEYOND);
        Due.is("12: what 2", x.rule(2, 0), Due.BEYOND);
        Due.is("12: what -1", x.rule(-1, 0), Due.BEYOND);
        Due.is("12: T was", x.rule(0, 60), 0);
        Due.is("12: hundredths were", x.rule(1, 50), 0);
    }

    private static void sorts() {
        HoursDesk x = withTwo();
        x.entry(0, 3, 40, 1, 3);
        x.entry(0, 3, 19, 1, 3);
        Due.is("14: travel below T", x.countedOn(0, 3, 3), 59);
        x.entry(0, 3, 40, 1, 3);
        Due.is("14: travel together", x.countedOn(0, 3, 3), 60);
        x.entry(0, 3, 1, 2, 3);
        Due.is("14: rain cut", x.countedOn(0, 3, 3), 60);
        x.entry(0, 3, 1, 2, 3);
        Due.is("14: rain together", x.countedOn(0, 3, 3), 61);
        x.entry(0, 3, 100, 0, 3);
        Due.is("14: work, all", x.countedOn(0, 3, 3), 161);
        Due.is("14: another day", x.countedOn(0, 2, 3), 0);
        Due.is("14: a later day", x.countedOn(0, 4, 4), 0);
        Due.is("14: another person", x.countedOn(1, 3, 3), 0);
        Due.is("14: asked again", x.countedOn(0, 3, 3), 161);
    }

    private static void dayLimits() {
        HoursDesk x = new HoursDesk();
        int[] limit = {480, 240, 480, 240};
        for (int kind = 0; kind < 4; kind++) {
            x.person(kind, 300, 127, 0, 364);
            x.entry(kind, 9, limit[kind] - 61, 0, 9);
            x.entry(kind, 9, 60, 1, 9);
            Due.is("14: below the limit", x.countedOn(kind, 9, 9), limit[kind] - 1);
            x.entry(kind, 9, 2, 2, 9);
            Due.is("14: at the limit", x.countedOn(kind, 9, 9), limit[kind]);
            x.entry(kind, 9, 900, 0, 9);
            Due.is("14: above the limit", x.countedOn(kind, 9, 9), limit[kind]);
            x.entry(kind, 10, 900, 0, 10);
            Due.is("13: limit by day", x.counted(kind, 10, 10), 2 * limit[kind]);
        }
    }

    private static void knownSince() {
        HoursDesk x = withTwo();
        x.entry(0, 5, 100, 0, 8);
        x.entry(0, 6, 10, 0, 6);
        Due.is("13: known at 6", x.counted(0, 6, 6), 10);
        Due.is("13: known at 7", x.counted(0, 6, 7), 10);
        Due.is("13: known at 8", x.counted(0, 6, 8), 110);
        Due.is("13: up to 5", x.counted(0, 5, 8), 100);
        Due.is("13: up to 4", x.counted(0, 4, 364), 0);
        Due.is("13: up to the last, known at 5", x.counted(0, 364, 5), 0);
        Due.is("14: on 5, known at 7", x.countedOn(0, 5, 7), 0);
        Due.is("14: on 5, known at 8", x.countedOn(0, 5, 8), 100);
    }

    private static void manyDays() {
        HoursDesk x = withTwo();
        x.entry(0, 0, 1, 2, 0);
        x.entry(0, 1, 1, 2, 1);
        x.entry(0, 1, 61, 1, 1);
        x.entry(0, 0, 61, 1, 1);
        x.entry(1, 0, 500, 0, 0);
        x.entry(0, 0, 1, 2, 0);
        Due.is("13: rain and travel by day", x.counted(0, 1, 1), 121);
        Due.is("13: travel known late", x.counted(0, 1, 0), 1);
        Due.is("13: other person", x.counted(1, 364, 364), 240);
    }

    private static void wrongAsked() {
        HoursDesk x = withTwo();
        int[][] wrong = {{2, 0, 0}, {-1, 0, 0}, {0, 365, 0}, {0, -1, 0}, {0, 0, 365}, {0, 0, -1}};
        for (int[] w : wrong) {
            Due.is("13: counted", x.counted(w[0], w[1], w[2]), Due.BEYOND);
            Due.is("14: countedOn", x.countedOn(w[0], w[1], w[2]), Due.BEYOND);
            Due.is("15: left", x.left(w[0], w[1], w[2]), Due.BEYOND);
        }
    }

    private static void left() {
        HoursDesk x = withTwo();
        Due.is("15: all", x.left(0, 0, 0), 120);
        x.entry(0, 3, 119, 0, 4);
        Due.is("15: not known yet", x.left(0, 3, 3), 120);
        Due.is("15: one minute", x.left(0, 3, 4), 1);
        x.entry(0, 4, 1, 0, 4);
        Due.is("15: up to 3", x.left(0, 3, 4), 1);
        Due.is("15: done", x.left(0, 4, 4), 0);
        x.entry(0, 5, 900, 0, 5);
        Due.is("15: more than done", x.left(0, 364, 364), 0);
        Due.is("15: other person", x.left(1, 364, 364), 180);
    }
}
