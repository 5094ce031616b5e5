/** Promises 32 and 33: undo, told. */
public final class WholeTest {
    public static void main(String[] args) {
        undoPeopleAndPlaces();
        undoEntries();
        undoAbsences();
        undoStruck();
        undoWhatChangedNothing();
        undoKeepsTwenty();
        notUndone();
        told();
        findings();
        Due.end();
    }

    private static void undoPeopleAndPlaces() {
        HoursDesk x = new HoursDesk();
        x.person(0, 1, 1, 0, 5);
        x.person(0, 1, 1, 0, 5);
        x.extend(0, 6);
        x.free(0, 127);
        x.place(1, 0, false, 1, 1);
        x.open(0, 2);
        x.bar(0, 1, true);
        x.bar(1, 0, false);
        Due.is("32: bar off", x.undo(), 7);
        Due.is("32: barred again", x.told(4), 1);
        Due.is("32: bar on", x.undo(), 6);
        Due.is("32: not barred", x.told(4), 0);
        Due.is("32: plan of the open day", x.plan(1), 1);
        Due.is("32: open", x.undo(), 5);
        Due.is("32: closed again", x.plan(1), 0);
        Due.is("32: place", x.undo(), 4);
        Due.is("32: no place", x.told(1), 0);
        Due.is("32: no gang", x.gang(0, 0), Due.BEYOND);
        Due.is("32: free", x.undo(), 3);
        Due.is("32: free as it was", x.of(0, 2), 1);
        Due.is("32: extend", x.undo(), 2);
        Due.is("32: due as it was", x.of(0, 4), 5);
        Due.is("32: person", x.undo(), 1);
        Due.is("32: one person", x.told(0), 1);
        Due.is("32: second is gone", x.of(1, 0), Due.BEYOND);
        Due.is("32: first person", x.undo(), 0);
        Due.is("32: none", x.undo(), Due.NONE);
    }

    private static void undoEntries() {
        HoursDesk x = new HoursDesk();
        x.person(0, 9, 1, 0, 5);
        x.entry(0, 0, 200, 1, 0);
        x.rule(0, 100);
        x.rule(1, 10);
        x.sheet(0, 8, 3);
        x.lay(0, 0, 0);
        Due.is("32: lay", x.undo(), 4);
        Due.is("32: three went", x.told(2), 1);
        Due.is("32: hundredths", x.undo(), 3);
        Due.is("32: T stays", x.countedOn(0, 0, 0), 100);
        Due.is("32: T", x.undo(), 2);
        Due.is("32: T as it was", x.countedOn(0, 0, 0), 60);
        Due.is("32: hundredths as they were", x.rule(1, 10), 50);
        Due.is("32: rule anew", x.undo(), 2);
        Due.is("32: entry", x.undo(), 1);
        Due.is("32: no entry", x.told(2), 0);
        Due.is("32: nothing counts", x.countedOn(0, 0, 0), 0);
    }

    private static void undoAbsences() {
        HoursDesk x = new HoursDesk();
        x.person(0, 9, 1, 0, 5);
        x.absent(0, 4);
        x.reason(0, 6);
        x.reason(0, -1);
        Due.is("32: reason off", x.undo(), 3);
        Due.is("32: proved again", x.breaches(0, 6), 0);
        Due.is("32: reason", x.undo(), 2);
        Due.is("32: not proved", x.breaches(0, 6), 1);
        Due.is("32: absent", x.undo(), 1);
        Due.is("32: no absence", x.told(3), 0);
        Due.is("32: no breach", x.breaches(0, 6), 0);
        Due.is("32: absent again", x.absent(0, 4), 0);
        Due.is("32: without a reason", x.breaches(0, 6), 1);
    }

    private static void undoStruck() {
        HoursDesk x = new HoursDesk();
        x.person(0, 9, 1, 0, 5);
        x.person(0, 9, 1, 0, 5);
        x.entry(0, 2, 10, 0, 3);
        x.entry(1, 5, 101, 2, 7);
        x.strike();
        x.strike();
        x.entry(0, 9, 100, 1, 9);
        x.undo();
        Due.is("32: strike", x.undo(), 5);
        Due.is("32: first again", x.countedOn(0, 2, 3), 10);
        Due.is("32: as known", x.countedOn(0, 2, 2), 0);
        Due.is("32: strike of the second", x.undo(), 4);
        Due.is("32: second again", x.countedOn(1, 5, 7), 50);
        Due.is("32: second as known", x.countedOn(1, 5, 6), 0);
        Due.is("32: two", x.told(2), 2);
    }

    private static void undoWhatChangedNothing() {
        HoursDesk x = new HoursDesk();
        x.person(0, 9, 1, 0, 5);
        x.person(0, 9, 1, 0, 5);
        x.free(0, 1);
        x.bar(0, 1, false);
        x.bar(0, 1, true);
        x.bar(0, 1, true);
        x.rule(0, 60);
        x.sheet(0, 8, 0);
        x.lay(0, 0, 0);
        Due.is("32: lay of nothing", x.undo(), 7);
        Due.is("32: same rule", x.undo(), 6);
        Due.is("32: barred twice", x.undo(), 5);
        Due.is("32: still barred", x.told(4), 1);
        Due.is("32: barred", x.undo(), 4);
        Due.is("32: not barred", x.told(4), 0);
        Due.is("32: not barred anyway", x.undo(), 3);
        Due.is("32: same set", x.undo(), 2);
    }

    private static void undoKeepsTwenty() {
        HoursDesk x = new HoursDesk();
        x.person(0, 9, 0, 0, 0);
        for (int i = 1; i <= 45; i++) {
            x.free(0, i);
        }
        for (int more = 19; more >= 0; more--) {
            Due.is("32: more", x.undo(), more);
            Due.is("32: set", x.of(0, 2), 26 + more - 1);
        }
        Due.is("32: twenty were kept", x.undo(), Due.NONE);
        Due.is("32: stays", x.of(0, 2), 25);
        x.free(0, 99);
        Due.is("32: kept anew", x.undo(), 0);
        Due.is("32: undone anew", x.of(0, 2), 25);
    }

    private static void notUndone() {
        HoursDesk x = new HoursDesk();
        x.person(0, 9, 127, 0, 5);
        x.sheet(0, 8, 1);
        x.put(0, 0, 5);
        x.as(0, 0);
        x.of(0, 0);
        x.counted(0, 0, 0);
        x.plan(0);
        x.person(9, 9, 0, 0, 0);
        x.extend(0, 5);
        x.strike();
        Due.is("32: only the person", x.undo(), 0);
        Due.is("32: nobody", x.told(0), 0);
        Due.is("32: none", x.undo(), Due.NONE);
        x.person(0, 9, 127, 0, 5);
        Due.is("32: sheets stay", x.lay(0, 0, 0), 1);
        Due.is("32: numbers stay", x.countedOn(0, 0, 0), 5);
    }

    private static void told() {
        HoursDesk x = new HoursDesk();
        for (int i = 0; i < 5; i++) {
            x.person(0, 9, 127, 0, 5);
        }
        x.place(0, 0, false, 1, 1);
        x.place(0, 0, false, 1, 1);
        x.entry(0, 0, 0, 0, 0);
        x.entry(0, 0, 0, 0, 0);
        x.entry(0, 0, 0, 0, 0);
        x.absent(0, 0);
        x.absent(0, 1);
        x.absent(0, 2);
        x.absent(1, 0);
        x.bar(0, 4, true);
        x.bar(4, 0, true);
        Due.is("33: people", x.told(0), 5);
        Due.is("33: places", x.told(1), 2);
        Due.is("33: entries", x.told(2), 3);
        Due.is("33: absences", x.told(3), 4);
        Due.is("33: bars", x.told(4), 1);
        Due.is("33: findings", x.told(5), 0);
        Due.is("33: what 6", x.told(6), Due.BEYOND);
        Due.is("33: what -1", x.told(-1), Due.BEYOND);
        Due.is("33: both counted", x.told(5), 2);
        for (int one = 0; one < 5; one++) {
            for (int other = 0; other < one; other++) {
                x.bar(one, other, true);
            }
        }
        Due.is("33: ten bars", x.told(4), 10);
        for (int i = 5; i < 8; i++) {
            x.person(0, 9, 127, 0, 5);
            x.bar(i, i - 1, true);
        }
        Due.is("33: eight people", x.told(0), 8);
        Due.is("33: thirteen bars", x.told(4), 13);
    }

    /** Each act answers a finding once; each of them counts, also where nothing could change. */
    private static void findings() {
        HoursDesk x = new HoursDesk();
        int[] answers = {
            x.person(4, 0, 0, 0, 0), x.as(0, 0), x.of(0, 0), x.extend(0, 0), x.free(0, 0),
            x.place(0, 0, true, 2, 1), x.open(0, 0), x.bar(0, 1, true), x.entry(0, 0, 0, 0, 0), x.strike(),
            x.rule(2, 0), x.counted(0, 0, 0), x.countedOn(0, 0, 0), x.left(0, 0, 0), x.plan(365),
            x.planned(0, 0), x.gang(0, 0), x.plans(-1), x.when(0, 1), x.absent(0, 0), x.reason(0, 0),
            x.breaches(0, 0), x.court(0, 0), x.pace(0, 0, true), x.foretold(0, 0), x.late(-1),
            x.sheet(0, 8, -1), x.put(0, 0, 0), x.copy(0, 0, 0, 0, 0), x.lay(0, 0, 0), x.undo(), x.told(6),
        };
        for (int i = 0; i < answers.length; i++) {
            Due.that("33: finding " + i, answers[i] < -99999);
        }
        Due.is("33: all counted", x.told(5), answers.length);
        x.person(0, 1, 0, 0, 0);
        int counted = answers.length;
        x.planned(0, 0);
        x.court(0, 0);
        x.pace(0, 0, true);
        x.foretold(0, 0);
        Due.is("33: NONE counts", x.told(5), counted + 4);
        x.late(0);
        Due.is("33: late asks, and finds nothing", x.told(5), counted + 4);
        x.undo();
        Due.is("33: ever", x.told(5), counted + 4);
    }
}
