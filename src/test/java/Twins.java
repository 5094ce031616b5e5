/**
 * Two objects with the same calls, but for one refused call (or one act, undone) that only the first one was asked: no
 * later call may tell them apart, except by how many findings were answered.
 *
 * The class does not count its calls, so looking may go beyond the 512 that the document promises.
 */
final class Twins {
    private static final int[] DAYS = {0, 1, 2, 3, 4, 5, 6, 7, 8, 9, 10, 11, 12, 20, 28, 29, 30, 59, 100, 300, 362, 363,
        364};

    private interface Look {
        int at(HoursDesk x);
    }

    private final String calls;
    private final HoursDesk asked;
    private final HoursDesk other;
    private boolean same = true;

    private Twins(Run run, String... calls) {
        this.calls = String.join(", ", calls);
        asked = run.again();
        other = run.again();
        for (String call : calls) {
            Run.call(asked, call);
        }
    }

    /** A call that answers a finding. */
    static void areSame(Run run, String call) {
        compare(run, 1, call);
    }

    /** An act that answers none; fewer than 20 are kept ahead of it, so that it drives none of them out. */
    static void areUndone(Run run, String act) {
        compare(run, 0, act, "undo()");
    }

    private static void compare(Run run, int findings, String... calls) {
        Twins looked = new Twins(run, calls);
        looked.lookAtPeople();
        looked.lookAtPlans();
        looked.lookAtDays();
        looked.end(findings);
        Twins apart = new Twins(run, calls);
        apart.takeApart();
        apart.end(findings);
        Twins undone = new Twins(run, calls);
        undone.undoAll();
        undone.end(findings);
        Twins laid = new Twins(run, calls);
        laid.laySheets();
        laid.end(findings);
    }

    private void see(String what, int a, int b, Look look) {
        int first = look.at(asked);
        int second = look.at(other);
        if (first != second && same) {
            same = false;
            Due.is(Doc.here() + "behind " + calls + ": " + what + " (" + a + ", " + b + ")", first, second);
        }
    }

    private void end(int findings) {
        Due.that(Doc.here() + calls + ": nothing has changed", same);
        Due.is(Doc.here() + calls + ": findings", asked.told(5) - other.told(5), findings);
    }

    private void lookAtPeople() {
        for (int what = 0; what < 5; what++) {
            int w = what;
            see("told", w, 0, x -> x.told(w));
            for (int person = 0; person < 8; person++) {
                int p = person;
                see("of", p, w, x -> x.of(p, w));
            }
        }
    }

    private void lookAtPlans() {
        for (int day = 0; day < 8; day++) {
            int d = day;
            see("plan", d, 0, x -> x.plan(d));
            see("plans", d, 0, x -> x.plans(d));
            for (int person = 0; person < 8; person++) {
                int p = person;
                see("planned", d, p, x -> x.planned(d, p));
            }
        }
    }

    private void lookAtDays() {
        for (int day : DAYS) {
            see("late", day, 0, x -> x.late(day));
            for (int person = 0; person < other.told(0); person++) {
                int p = person;
                see("counted", p, day, x -> x.counted(p, day, day));
                see("countedOn", p, day, x -> x.countedOn(p, day, 364));
                see("pace", p, day, x -> x.pace(p, day, true));
                see("foretold", p, day, x -> x.foretold(p, day));
                see("breaches", p, day, x -> x.breaches(p, day));
                see("court", p, day, x -> x.court(p, day));
            }
        }
    }

    /** What no call only tells is seen by changing it: such acts answer what it was. */
    private void takeApart() {
        see("rule", 0, 0, x -> x.rule(0, 300));
        see("rule", 1, 0, x -> x.rule(1, 100));
        for (int place = 0; place < 3; place++) {
            int p = place;
            see("open", p, 0, x -> x.open(p, 0));
        }
        for (int absence = 0; absence < 30; absence++) {
            int a = absence;
            see("reason", a, 0, x -> x.reason(a, -1));
        }
        for (int pair = 0; pair < 64; pair++) {
            int one = pair / 8;
            int two = pair % 8;
            see("bar", one, two, x -> x.bar(one, two, false));
        }
        for (int entry = 0; entry < 60; entry++) {
            see("strike", entry, 0, HoursDesk::strike);
            for (int person = 0; person < other.told(0); person++) {
                int p = person;
                see("counted", p, entry, x -> x.counted(p, 364, 364));
            }
        }
    }

    private void undoAll() {
        for (int act = 0; act < 22; act++) {
            see("undo", act, 0, HoursDesk::undo);
            lookAtPeople();
            see("plans", act, 0, x -> x.plans(0));
            for (int person = 0; person < other.told(0); person++) {
                int p = person;
                see("counted", p, act, x -> x.counted(p, 364, 364));
                see("breaches", p, act, x -> x.breaches(p, 364));
            }
        }
    }

    private void laySheets() {
        for (int s = 0; s < 4; s++) {
            int sheet = s;
            for (int n = 0; n <= 20; n++) {
                int size = n;
                see("copy", sheet, size, x -> x.copy(sheet, 0, sheet, 0, size));
            }
            see("copy to the next", sheet, 0, x -> x.copy(sheet, 0, (sheet + 1) % 4, 0, 0));
            for (int entry = 0; entry < 60; entry++) {
                see("strike", sheet, entry, HoursDesk::strike);
            }
            see("person", sheet, 0, x -> x.person(0, 300, 0, 0, 0));
            see("lay", sheet, 0, x -> x.lay(0, 0, sheet));
            for (int day = 0; day < 20; day++) {
                int d = day;
                see("laid", sheet, d, x -> x.countedOn(0, d, d));
            }
        }
    }
}
