/** Long runs of made-up calls, the same ones every time, on HoursDesk and on SlowDesk. */
public final class CompareTest {
    private static final int RUNS = 600;
    private static final int CALLS = 512;

    private long seed;
    /** How far DAYS go in this run: few of them, so that they meet, or all. */
    private int days;
    /** The people that a run begins with. */
    private int crowd;
    /** Of how many calls one may be wrong. */
    private int wrongOf;
    private String call;

    private CompareTest(int run) {
        seed = 88172645463325252L + 7919L * run;
        days = new int[] {8, 40, 365}[run % 3];
        crowd = run % 9;
        wrongOf = run % 2 == 0 ? 40 : 12;
    }

    public static void main(String[] args) {
        for (int run = 0; run < RUNS; run++) {
            new CompareTest(run).compare(run);
        }
        Due.end();
    }

    private int any(int n) {
        seed ^= seed << 13;
        seed ^= seed >>> 7;
        seed ^= seed << 17;
        return (int) Long.remainderUnsigned(seed >>> 3, n);
    }

    /** A number from least to most, or now and then one that is wrong. */
    private int in(int least, int most) {
        if (any(wrongOf) == 0) {
            int[] odd = {least - 1, most + 1, -1, Integer.MIN_VALUE, Integer.MAX_VALUE, least, most};
            return odd[any(odd.length)];
        }
        return least + any(most - least + 1);
    }

    private int day() {
        return days == 365 || any(30) == 0 ? in(0, 364) : any(days);
    }

    private int dayFrom(int first) {
        if (any(wrongOf) == 0 || first < 0 || first > 364) {
            return day();
        }
        return Math.min(364, first + any(6));
    }

    private int who(SlowDesk slow) {
        int n = slow.told(0);
        return n == 0 ? in(0, 7) : in(0, n - 1);
    }

    private void compare(int run) {
        HoursDesk fast = new HoursDesk();
        SlowDesk slow = new SlowDesk();
        for (int i = 0; i < crowd; i++) {
            int free = any(3) == 0 ? any(128) : 127;
            int skills = any(2) == 0 ? 15 : any(16);
            int kind = any(4);
            int owes = 1 + any(12);
            Due.is("run " + run + " begins", fast.person(kind, owes, free, skills, 20),
                    slow.person(kind, owes, free, skills, 20));
        }
        for (int i = 0; i < CALLS - crowd; i++) {
            long[] answers = step(fast, slow);
            Due.is("run " + run + ", call " + i + ": " + call, answers[0], answers[1]);
        }
    }

    private long[] step(HoursDesk x, SlowDesk y) {
        int kind = any(100);
        if (kind < 22) {
            return peopleStep(x, y);
        }
        if (kind < 50) {
            return entriesStep(x, y);
        }
        if (kind < 64) {
            return plansStep(x, y);
        }
        if (kind < 78) {
            return absencesStep(x, y);
        }
        if (kind < 84) {
            return endsStep(x, y);
        }
        return wholeStep(x, y);
    }

    private void calling(String name, int... args) {
        StringBuilder text = new StringBuilder(name);
        for (int a : args) {
            text.append(' ').append(a);
        }
        call = text.toString();
    }

    private long[] peopleStep(HoursDesk x, SlowDesk y) {
        int a = who(y);
        int b = who(y);
        int set = in(0, 127);
        boolean on = any(3) > 0;
        switch (any(9)) {
            case 0: {
                int kind = in(0, 3);
                int owes = any(5) == 0 ? in(1, 300) : in(1, 12);
                int skills = in(0, 15);
                int due = day();
                calling("person", kind, owes, set, skills, due);
                return new long[] {x.person(kind, owes, set, skills, due), y.person(kind, owes, set, skills, due)};
            }
            case 1: {
                int kind = in(0, 3);
                calling("as", a, kind);
                return new long[] {x.as(a, kind), y.as(a, kind)};
            }
            case 2: {
                int what = in(0, 4);
                calling("of", a, what);
                return new long[] {x.of(a, what), y.of(a, what)};
            }
            case 3: {
                int due = day();
                calling("extend", a, due);
                return new long[] {x.extend(a, due), y.extend(a, due)};
            }
            case 4:
                set = any(2) == 0 ? 127 : set;
                calling("free", a, set);
                return new long[] {x.free(a, set), y.free(a, set)};
            case 5:
            case 6: {
                int asks = any(2) == 0 ? 0 : in(0, 15);
                int least = in(1, any(2) == 0 ? 3 : 8);
                int most = in(1, 8);
                boolean leader = any(3) == 0;
                set = any(2) == 0 ? 127 : set;
                calling("place", set, asks, leader ? 1 : 0, least, most);
                return new long[] {x.place(set, asks, leader, least, most), y.place(set, asks, leader, least, most)};
            }
            case 7: {
                int place = in(0, 2);
                set = any(2) == 0 ? 127 : set;
                calling("open", place, set);
                return new long[] {x.open(place, set), y.open(place, set)};
            }
            default:
                calling("bar", a, b, on ? 1 : 0);
                return new long[] {x.bar(a, b, on), y.bar(a, b, on)};
        }
    }

    private long[] entriesStep(HoursDesk x, SlowDesk y) {
        int a = who(y);
        int day = day();
        int known = dayFrom(day);
        switch (any(12)) {
            case 0:
            case 1:
            case 2:
            case 3:
            case 4: {
                int minutes = any(2) == 0 ? in(0, 900) : in(0, 100);
                int sort = in(0, 2);
                calling("entry", a, day, minutes, sort, known);
                return new long[] {x.entry(a, day, minutes, sort, known), y.entry(a, day, minutes, sort, known)};
            }
            case 5:
                calling("strike");
                return new long[] {x.strike(), y.strike()};
            case 6: {
                int what = in(0, 1);
                int v = what == 0 ? in(0, 300) : in(0, 100);
                calling("rule", what, v);
                return new long[] {x.rule(what, v), y.rule(what, v)};
            }
            case 7:
            case 8:
                calling("counted", a, day, known);
                return new long[] {x.counted(a, day, known), y.counted(a, day, known)};
            case 9:
            case 10:
                calling("countedOn", a, day, known);
                return new long[] {x.countedOn(a, day, known), y.countedOn(a, day, known)};
            default:
                calling("left", a, day, known);
                return new long[] {x.left(a, day, known), y.left(a, day, known)};
        }
    }

    private long[] plansStep(HoursDesk x, SlowDesk y) {
        int a = who(y);
        int day = day();
        switch (any(5)) {
            case 0:
                calling("plan", day);
                return new long[] {x.plan(day), y.plan(day)};
            case 1:
                calling("planned", day, a);
                return new long[] {x.planned(day, a), y.planned(day, a)};
            case 2: {
                int place = in(0, 2);
                calling("gang", day, place);
                return new long[] {x.gang(day, place), y.gang(day, place)};
            }
            case 3:
                calling("plans", day);
                return new long[] {x.plans(day), y.plans(day)};
            default: {
                int n = in(1, 8);
                calling("when", day, n);
                return new long[] {x.when(day, n), y.when(day, n)};
            }
        }
    }

    private long[] absencesStep(HoursDesk x, SlowDesk y) {
        int a = who(y);
        int day = day();
        switch (any(5)) {
            case 0:
            case 1:
                calling("absent", a, day);
                return new long[] {x.absent(a, day), y.absent(a, day)};
            case 2: {
                int absence = in(0, Math.max(0, y.told(3) - 1));
                int proved = any(4) == 0 ? -1 : Math.min(364, day + any(40));
                calling("reason", absence, proved);
                return new long[] {x.reason(absence, proved), y.reason(absence, proved)};
            }
            case 3:
                calling("breaches", a, day);
                return new long[] {x.breaches(a, day), y.breaches(a, day)};
            default:
                calling("court", a, day);
                return new long[] {x.court(a, day), y.court(a, day)};
        }
    }

    private long[] endsStep(HoursDesk x, SlowDesk y) {
        int a = who(y);
        int day = day();
        boolean below = any(2) == 0;
        switch (any(3)) {
            case 0:
                calling("pace", a, day, below ? 1 : 0);
                return new long[] {x.pace(a, day, below), y.pace(a, day, below)};
            case 1:
                calling("foretold", a, day);
                return new long[] {x.foretold(a, day), y.foretold(a, day)};
            default:
                calling("late", day);
                return new long[] {x.late(day), y.late(day)};
        }
    }

    private long[] wholeStep(HoursDesk x, SlowDesk y) {
        int s = in(0, 3);
        int n = any(2) == 0 ? in(0, 20) : in(0, 6);
        switch (any(12)) {
            case 0: {
                int bits = new int[] {0, 8, 16, 16, 16, 32, 32, 7}[any(8)];
                calling("sheet", s, bits, n);
                return new long[] {x.sheet(s, bits, n), y.sheet(s, bits, n)};
            }
            case 1:
            case 2:
            case 3: {
                int v = any(3) == 0 ? in(-70000, 70000) : in(-10, 910);
                calling("put", s, n, v);
                return new long[] {x.put(s, n, v), y.put(s, n, v)};
            }
            case 4:
            case 5: {
                int from = in(0, 5);
                int t = in(0, 3);
                int to = in(0, 5);
                calling("copy", s, from, t, to, n);
                return new long[] {x.copy(s, from, t, to, n), y.copy(s, from, t, to, n)};
            }
            case 6:
            case 7: {
                int a = who(y);
                int day = day();
                calling("lay", a, day, s);
                return new long[] {x.lay(a, day, s), y.lay(a, day, s)};
            }
            case 8:
            case 9:
            case 10:
                calling("undo");
                return new long[] {x.undo(), y.undo()};
            default: {
                int what = in(0, 5);
                calling("told", what);
                return new long[] {x.told(what), y.told(what)};
            }
        }
    }
}
