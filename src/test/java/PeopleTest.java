/** Promises 1 to 6 and 9: a new object, person, as, of, extend, free, bar. */
public final class PeopleTest {
    public static void main(String[] args) {
        newObject();
        person();
        personIsFull();
        as();
        of();
        extend();
        free();
        bar();
        Due.end();
    }

    private static void newObject() {
        HoursDesk x = new HoursDesk();
        for (int what = 0; what <= 5; what++) {
            Due.is("1: told(" + what + ")", x.told(what), 0);
        }
        Due.is("1: of nobody", x.of(0, 0), Due.BEYOND);
        Due.is("1: open of no place", x.open(0, 0), Due.BEYOND);
        Due.is("1: strike", x.strike(), Due.NONE);
        Due.is("1: undo", x.undo(), Due.NONE);
        Due.is("1: reason", x.reason(0, 0), Due.BEYOND);
        for (int s = 0; s < 4; s++) {
            Due.is("1: sheet " + s + " missing", x.put(s, 0, 0), Due.MISSING);
        }
        Due.is("1: T", x.rule(0, 60), 60);
        Due.is("1: hundredths", x.rule(1, 50), 50);
        Due.is("1: plan", x.plan(0), 0);
        Due.is("1: plans", x.plans(364), 1);
        HoursDesk y = new HoursDesk();
        x.person(0, 1, 0, 0, 0);
        Due.is("1: objects are apart", y.told(0), 0);
    }

    private static void person() {
        HoursDesk x = new HoursDesk();
        Due.is("2: kind -1", x.person(-1, 1, 0, 0, 0), Due.BEYOND);
        Due.is("2: kind 4", x.person(4, 1, 0, 0, 0), Due.BEYOND);
        Due.is("2: 0 hours", x.person(0, 0, 0, 0, 0), Due.BEYOND);
        Due.is("2: -1 hours", x.person(0, -1, 0, 0, 0), Due.BEYOND);
        Due.is("2: 301 hours", x.person(0, 301, 0, 0, 0), Due.BEYOND);
        Due.is("2: free -1", x.person(0, 1, -1, 0, 0), Due.BEYOND);
        Due.is("2: free 128", x.person(0, 1, 128, 0, 0), Due.BEYOND);
        Due.is("2: skills -1", x.person(0, 1, 0, -1, 0), Due.BEYOND);
        Due.is("2: skills 16", x.person(0, 1, 0, 16, 0), Due.BEYOND);
        Due.is("2: due -1", x.person(0, 1, 0, 0, -1), Due.BEYOND);
        Due.is("2: due 365", x.person(0, 1, 0, 0, 365), Due.BEYOND);
        Due.is("2: lowest ints", x.person(Integer.MIN_VALUE, 1, 0, 0, 0), Due.BEYOND);
        Due.is("2: nobody came", x.told(0), 0);
        Due.is("2: least of all", x.person(0, 1, 0, 0, 0), 0);
        Due.is("2: most of all", x.person(3, 300, 127, 15, 364), 1);
        Due.is("2: two came", x.told(0), 2);
    }

    private static void personIsFull() {
        HoursDesk x = new HoursDesk();
        for (int i = 0; i < 8; i++) {
            Due.is("2: number", x.person(i % 4, 1 + i, i, i, i), i);
        }
        Due.is("2: full", x.person(0, 1, 0, 0, 0), Due.FULL);
        Due.is("2: beyond ahead of full", x.person(4, 1, 0, 0, 0), Due.BEYOND);
        Due.is("2: still 8", x.told(0), 8);
        Due.is("2: last is kept", x.of(7, 1), 8);
        x.undo();
        Due.is("2: room again", x.person(0, 9, 0, 0, 0), 7);
    }

    private static void as() {
        boolean[][] isOf = {
            {true, false, false, false},
            {true, true, false, false},
            {true, false, true, false},
            {true, true, false, true},
        };
        HoursDesk x = new HoursDesk();
        for (int kind = 0; kind < 4; kind++) {
            x.person(kind, 1, 0, 0, 0);
        }
        for (int p = 0; p < 4; p++) {
            for (int kind = 0; kind < 4; kind++) {
                Due.is("3: as(" + p + ", " + kind + ")", x.as(p, kind), isOf[p][kind] ? p : Due.KIND);
            }
        }
        Due.is("3: no such person", x.as(4, 0), Due.BEYOND);
        Due.is("3: person -1", x.as(-1, 0), Due.BEYOND);
        Due.is("3: kind 4", x.as(0, 4), Due.BEYOND);
        Due.is("3: kind -1", x.as(0, -1), Due.BEYOND);
        Due.is("3: kind 32 + 0", x.as(0, 32), Due.BEYOND);
    }

    private static void of() {
        HoursDesk x = new HoursDesk();
        x.person(2, 17, 5, 9, 100);
        x.person(3, 300, 127, 15, 364);
        int[][] want = {{2, 17, 5, 9, 100}, {3, 300, 127, 15, 364}};
        for (int p = 0; p < 2; p++) {
            for (int what = 0; what < 5; what++) {
                Due.is("4: of(" + p + ", " + what + ")", x.of(p, what), want[p][what]);
            }
            Due.is("4: what 5", x.of(p, 5), Due.BEYOND);
            Due.is("4: what -1", x.of(p, -1), Due.BEYOND);
        }
        Due.is("4: no such person", x.of(2, 0), Due.BEYOND);
        Due.is("4: person -1", x.of(-1, 0), Due.BEYOND);
    }

    private static void extend() {
        HoursDesk x = new HoursDesk();
        x.person(0, 1, 0, 0, 10);
        x.person(0, 1, 0, 0, 20);
        Due.is("5: same day", x.extend(0, 10), Due.SIZE);
        Due.is("5: earlier day", x.extend(0, 9), Due.SIZE);
        Due.is("5: day 365", x.extend(0, 365), Due.BEYOND);
        Due.is("5: day -1", x.extend(0, -1), Due.BEYOND);
        Due.is("5: no such person", x.extend(2, 11), Due.BEYOND);
        Due.is("5: nothing changed", x.of(0, 4), 10);
        Due.is("5: what it was", x.extend(0, 11), 10);
        Due.is("5: what it is", x.of(0, 4), 11);
        Due.is("5: last day", x.extend(0, 364), 11);
        Due.is("5: other person", x.of(1, 4), 20);
    }

    private static void free() {
        HoursDesk x = new HoursDesk();
        x.person(0, 1, 3, 0, 10);
        x.person(0, 1, 4, 0, 10);
        Due.is("6: what it was", x.free(0, 127), 3);
        Due.is("6: what it is", x.of(0, 2), 127);
        Due.is("6: none", x.free(0, 0), 127);
        Due.is("6: set 128", x.free(0, 128), Due.BEYOND);
        Due.is("6: set -1", x.free(0, -1), Due.BEYOND);
        Due.is("6: no such person", x.free(2, 0), Due.BEYOND);
        Due.is("6: person -1", x.free(-1, 0), Due.BEYOND);
        Due.is("6: other person", x.of(1, 2), 4);
    }

    private static void bar() {
        HoursDesk x = new HoursDesk();
        for (int i = 0; i < 3; i++) {
            x.person(0, 1, 127, 0, 0);
        }
        Due.is("9: not barred yet", x.bar(0, 1, false), 0);
        Due.is("9: new", x.bar(0, 1, true), 1);
        Due.is("9: the other way round", x.bar(1, 0, true), 0);
        Due.is("9: another pair", x.bar(2, 1, true), 1);
        Due.is("9: two pairs", x.told(4), 2);
        Due.is("9: off", x.bar(1, 0, false), 1);
        Due.is("9: off already", x.bar(0, 1, false), 0);
        Due.is("9: one pair", x.told(4), 1);
        Due.is("9: one person", x.bar(1, 1, true), Due.SIZE);
        Due.is("9: one person, off", x.bar(1, 1, false), Due.SIZE);
        Due.is("9: no such other", x.bar(0, 3, true), Due.BEYOND);
        Due.is("9: no such person", x.bar(3, 0, true), Due.BEYOND);
        Due.is("9: beyond ahead of size", x.bar(3, 3, true), Due.BEYOND);
        Due.is("9: -1", x.bar(-1, -1, true), Due.BEYOND);
        Due.is("9: still one pair", x.told(4), 1);
    }
}
