import java.util.ArrayList;
import java.util.List;
import java.util.TreeSet;

/** The document written a second time, as plainly as can be and without a thought for speed. */
final class SlowDesk {
    private static final class Person {
        int kind;
        int owes;
        int free;
        int skills;
        int due;
    }

    private static final class Place {
        int open;
        int asks;
        boolean leader;
        int least;
        int most;
    }

    private record Entry(int person, int day, int minutes, int sort, int known) {
    }

    private record Absence(int person, int day, int proved) {
    }

    /** All that can be undone; a whole copy of it is kept ahead of each act. */
    private static final class State {
        final List<Person> people = new ArrayList<>();
        final List<Place> places = new ArrayList<>();
        final TreeSet<Integer> bars = new TreeSet<>();
        final List<Entry> entries = new ArrayList<>();
        final List<Absence> absences = new ArrayList<>();
        int travel = 60;
        int rain = 50;

        State copied() {
            State s = new State();
            for (Person p : people) {
                Person q = new Person();
                q.kind = p.kind;
                q.owes = p.owes;
                q.free = p.free;
                q.skills = p.skills;
                q.due = p.due;
                s.people.add(q);
            }
            for (Place p : places) {
                Place q = new Place();
                q.open = p.open;
                q.asks = p.asks;
                q.leader = p.leader;
                q.least = p.least;
                q.most = p.most;
                s.places.add(q);
            }
            s.bars.addAll(bars);
            s.entries.addAll(entries);
            s.absences.addAll(absences);
            s.travel = travel;
            s.rain = rain;
            return s;
        }
    }

    private State now = new State();
    private final List<State> before = new ArrayList<>();
    private final int[][] sheets = new int[4][];
    private final int[] bits = new int[4];
    private int findings = 0;

    private int found(int finding) {
        findings++;
        return finding;
    }

    private void keep() {
        before.add(now.copied());
        if (before.size() > 20) {
            before.remove(0);
        }
    }

    private boolean noPerson(int p) {
        return p < 0 || p >= now.people.size();
    }

    private static boolean noDay(int d) {
        return d < 0 || d > 364;
    }

    private static boolean noSet(int set, int things) {
        return set < 0 || set >= 1 << things;
    }

    int person(int kind, int owes, int free, int skills, int due) {
        if (kind < 0 || kind > 3 || owes < 1 || owes > 300 || noSet(free, 7) || noSet(skills, 4) || noDay(due)) {
            return found(Due.BEYOND);
        }
        if (now.people.size() == 8) {
            return found(Due.FULL);
        }
        keep();
        Person p = new Person();
        p.kind = kind;
        p.owes = owes;
        p.free = free;
        p.skills = skills;
        p.due = due;
        now.people.add(p);
        return now.people.size() - 1;
    }

    private static boolean isUnder(int kind, int wanted) {
        int[] above = {-1, 0, 0, 1};
        while (kind >= 0) {
            if (kind == wanted) {
                return true;
            }
            kind = above[kind];
        }
        return false;
    }

    int as(int person, int kind) {
        if (noPerson(person) || kind < 0 || kind > 3) {
            return found(Due.BEYOND);
        }
        return isUnder(now.people.get(person).kind, kind) ? person : found(Due.KIND);
    }

    int of(int person, int what) {
        if (noPerson(person) || what < 0 || what > 4) {
            return found(Due.BEYOND);
        }
        Person p = now.people.get(person);
        return new int[] {p.kind, p.owes, p.free, p.skills, p.due}[what];
    }

    int extend(int person, int due) {
        if (noPerson(person) || noDay(due)) {
            return found(Due.BEYOND);
        }
        int was = now.people.get(person).due;
        if (due <= was) {
            return found(Due.SIZE);
        }
        keep();
        now.people.get(person).due = due;
        return was;
    }

    int free(int person, int set) {
        if (noPerson(person) || noSet(set, 7)) {
            return found(Due.BEYOND);
        }
        keep();
        int was = now.people.get(person).free;
        now.people.get(person).free = set;
        return was;
    }

    int place(int open, int asks, boolean leader, int least, int most) {
        if (noSet(open, 7) || noSet(asks, 4) || least < 1 || least > 8 || most < 1 || most > 8) {
            return found(Due.BEYOND);
        }
        if (least > most) {
            return found(Due.SIZE);
        }
        if (now.places.size() == 3) {
            return found(Due.FULL);
        }
        keep();
        Place p = new Place();
        p.open = open;
        p.asks = asks;
        p.leader = leader;
        p.least = least;
        p.most = most;
        now.places.add(p);
        return now.places.size() - 1;
    }

    int open(int place, int set) {
        if (place < 0 || place >= now.places.size() || noSet(set, 7)) {
            return found(Due.BEYOND);
        }
        keep();
        int was = now.places.get(place).open;
        now.places.get(place).open = set;
        return was;
    }

    int bar(int person, int other, boolean on) {
        if (noPerson(person) || noPerson(other)) {
            return found(Due.BEYOND);
        }
        if (person == other) {
            return found(Due.SIZE);
        }
        keep();
        int pair = Math.min(person, other) * 100 + Math.max(person, other);
        boolean changed = on ? now.bars.add(pair) : now.bars.remove(pair);
        return changed ? 1 : 0;
    }

    int entry(int person, int day, int minutes, int sort, int known) {
        if (noPerson(person) || noDay(day) || minutes < 0 || minutes > 900 || sort < 0 || sort > 2 || noDay(known)) {
            return found(Due.BEYOND);
        }
        if (known < day) {
            return found(Due.SIZE);
        }
        if (now.entries.size() == 60) {
            return found(Due.FULL);
        }
        keep();
        now.entries.add(new Entry(person, day, minutes, sort, known));
        return now.entries.size() - 1;
    }

    int strike() {
        if (now.entries.isEmpty()) {
            return found(Due.NONE);
        }
        keep();
        now.entries.remove(now.entries.size() - 1);
        return now.entries.size();
    }

    int rule(int what, int v) {
        if (what < 0 || what > 1 || v < 0 || v > (what == 0 ? 300 : 100)) {
            return found(Due.BEYOND);
        }
        keep();
        int was = what == 0 ? now.travel : now.rain;
        if (what == 0) {
            now.travel = v;
        } else {
            now.rain = v;
        }
        return was;
    }

    private int ofDay(int person, int day, int known) {
        int[] sum = new int[3];
        for (Entry e : now.entries) {
            if (e.person == person && e.day == day && e.known <= known) {
                sum[e.sort] += e.minutes;
            }
        }
        int all = sum[0] + Math.min(sum[1], now.travel) + sum[2] * now.rain / 100;
        return Math.min(all, isUnder(now.people.get(person).kind, 1) ? 240 : 480);
    }

    private int upTo(int person, int day, int known) {
        int all = 0;
        for (int d = 0; d <= day; d++) {
            all += ofDay(person, d, known);
        }
        return all;
    }

    private boolean done(int person, int day, int known) {
        return upTo(person, day, known) >= 60 * now.people.get(person).owes;
    }

    int counted(int person, int day, int known) {
        return noPerson(person) || noDay(day) || noDay(known) ? found(Due.BEYOND) : upTo(person, day, known);
    }

    int countedOn(int person, int day, int known) {
        return noPerson(person) || noDay(day) || noDay(known) ? found(Due.BEYOND) : ofDay(person, day, known);
    }

    int left(int person, int day, int known) {
        if (noPerson(person) || noDay(day) || noDay(known)) {
            return found(Due.BEYOND);
        }
        return done(person, day, known) ? 0 : 60 * now.people.get(person).owes - upTo(person, day, known);
    }

    /** Every plan of a DAY, in the order in which they are told, none being told as the PLACES' number. */
    private List<int[]> allPlans(int day) {
        List<int[]> all = new ArrayList<>();
        int n = now.people.size();
        boolean[] may = new boolean[n];
        for (int p = 0; p < n; p++) {
            may[p] = (now.people.get(p).free >> day % 7 & 1) == 1 && !done(p, day - 1, day);
        }
        extendPlans(day, may, new int[n], 0, all);
        return all;
    }

    private void extendPlans(int day, boolean[] may, int[] plan, int p, List<int[]> all) {
        int none = now.places.size();
        if (p == plan.length) {
            if (gangsAreRight(plan)) {
                all.add(plan.clone());
            }
            return;
        }
        for (int place = 0; place <= none; place++) {
            if (place == none || may[p] && goesTo(day, p, place)) {
                plan[p] = place;
                extendPlans(day, may, plan, p + 1, all);
            }
        }
    }

    private boolean goesTo(int day, int p, int place) {
        Place at = now.places.get(place);
        return (at.open >> day % 7 & 1) == 1 && (at.asks & now.people.get(p).skills) == at.asks;
    }

    private boolean gangsAreRight(int[] plan) {
        for (int place = 0; place < now.places.size(); place++) {
            Place at = now.places.get(place);
            int size = 0;
            boolean led = false;
            for (int p = 0; p < plan.length; p++) {
                if (plan[p] == place) {
                    size++;
                    led |= now.people.get(p).kind == 2;
                }
            }
            if (size > 0 && (size < at.least || size > at.most || at.leader && !led)) {
                return false;
            }
        }
        for (int pair : now.bars) {
            if (plan[pair / 100] == plan[pair % 100] && plan[pair / 100] < now.places.size()) {
                return false;
            }
        }
        return true;
    }

    private int atPlaces(int[] plan) {
        int number = 0;
        for (int place : plan) {
            number += place < now.places.size() ? 1 : 0;
        }
        return number;
    }

    private int[] thePlan(int day) {
        int[] best = null;
        for (int[] plan : allPlans(day)) {
            if (best == null || atPlaces(plan) > atPlaces(best)) {
                best = plan;
            }
        }
        return best;
    }

    int plan(int day) {
        return noDay(day) ? found(Due.BEYOND) : atPlaces(thePlan(day));
    }

    int planned(int day, int person) {
        if (noDay(day) || noPerson(person)) {
            return found(Due.BEYOND);
        }
        int place = thePlan(day)[person];
        return place == now.places.size() ? found(Due.NONE) : place;
    }

    int gang(int day, int place) {
        if (noDay(day) || place < 0 || place >= now.places.size()) {
            return found(Due.BEYOND);
        }
        int size = 0;
        for (int at : thePlan(day)) {
            size += at == place ? 1 : 0;
        }
        return size;
    }

    int plans(int day) {
        if (noDay(day)) {
            return found(Due.BEYOND);
        }
        int most = 0;
        int number = 0;
        for (int[] plan : allPlans(day)) {
            int here = atPlaces(plan);
            if (here > most) {
                most = here;
                number = 0;
            }
            number += here == most ? 1 : 0;
        }
        return number;
    }

    int when(int day, int n) {
        if (noDay(day) || n < 1 || n > 8) {
            return found(Due.BEYOND);
        }
        for (int d = day; d <= day + 6 && d <= 364; d++) {
            if (atPlaces(thePlan(d)) >= n) {
                return d;
            }
        }
        return found(Due.NONE);
    }

    int absent(int person, int day) {
        if (noPerson(person) || noDay(day)) {
            return found(Due.BEYOND);
        }
        for (Absence a : now.absences) {
            if (a.person == person && a.day == day) {
                return found(Due.SIZE);
            }
        }
        if (now.absences.size() == 30) {
            return found(Due.FULL);
        }
        keep();
        now.absences.add(new Absence(person, day, -1));
        return now.absences.size() - 1;
    }

    int reason(int absence, int day) {
        if (absence < 0 || absence >= now.absences.size() || day != -1 && noDay(day)) {
            return found(Due.BEYOND);
        }
        Absence a = now.absences.get(absence);
        if (day != -1 && day < a.day) {
            return found(Due.SIZE);
        }
        keep();
        now.absences.set(absence, new Absence(a.person, a.day, day));
        return a.proved;
    }

    private TreeSet<Integer> breachDays(int person, int known) {
        TreeSet<Integer> days = new TreeSet<>();
        for (Absence a : now.absences) {
            boolean proved = a.proved != -1 && a.proved <= known;
            if (a.person == person && a.day <= known && !proved) {
                days.add(a.day);
            }
        }
        return days;
    }

    int breaches(int person, int known) {
        return noPerson(person) || noDay(known) ? found(Due.BEYOND) : breachDays(person, known).size();
    }

    int court(int person, int known) {
        if (noPerson(person) || noDay(known)) {
            return found(Due.BEYOND);
        }
        int last = -1000;
        for (int day : breachDays(person, known)) {
            if (day - last <= 28) {
                return day;
            }
            last = day;
        }
        return found(Due.NONE);
    }

    private int paceDays(int person, int day) {
        for (int d = 0; d <= day; d++) {
            for (Entry e : now.entries) {
                if (e.person == person && e.day == d && e.known <= day && e.minutes > 0) {
                    return day - d + 1;
                }
            }
        }
        return 0;
    }

    int pace(int person, int day, boolean below) {
        if (noPerson(person) || noDay(day)) {
            return found(Due.BEYOND);
        }
        int days = paceDays(person, day);
        if (days == 0) {
            return found(Due.NONE);
        }
        int minutes = upTo(person, day, day);
        for (int part = days; part > 1; part--) {
            if (days % part == 0 && minutes % part == 0) {
                days /= part;
                minutes /= part;
                break;
            }
        }
        return below ? days : minutes;
    }

    /** The DAY, found by going on day by day; -1 if it can't be foretold. */
    private int end(int person, int day) {
        long days = paceDays(person, day);
        long minutes = upTo(person, day, day);
        if (days == 0 || minutes == 0) {
            return -1;
        }
        long owed = 60L * now.people.get(person).owes;
        int e = day;
        while (minutes * days + minutes * (e - day) < owed * days) {
            e++;
        }
        return e;
    }

    int foretold(int person, int day) {
        if (noPerson(person) || noDay(day)) {
            return found(Due.BEYOND);
        }
        int e = end(person, day);
        return e < 0 ? found(Due.NONE) : e;
    }

    int late(int day) {
        if (noDay(day)) {
            return found(Due.BEYOND);
        }
        int number = 0;
        for (int p = 0; p < now.people.size(); p++) {
            int e = end(p, day);
            boolean behind = e < 0 || e > now.people.get(p).due;
            number += behind && !done(p, day, day) ? 1 : 0;
        }
        return number;
    }

    private static boolean noSheet(int s) {
        return s < 0 || s > 3;
    }

    int sheet(int s, int width, int n) {
        if (noSheet(s) || width != 0 && width != 8 && width != 16 && width != 32) {
            return found(Due.BEYOND);
        }
        if (n < 0) {
            return found(Due.SIZE);
        }
        if (n > 20) {
            return found(Due.BEYOND);
        }
        bits[s] = width;
        sheets[s] = width == 0 ? null : new int[n];
        return width == 0 ? 0 : n;
    }

    int put(int s, int i, int v) {
        if (noSheet(s)) {
            return found(Due.BEYOND);
        }
        if (sheets[s] == null) {
            return found(Due.MISSING);
        }
        if (i < 0 || i >= sheets[s].length) {
            return found(Due.BEYOND);
        }
        sheets[s][i] = v << 32 - bits[s] >> 32 - bits[s];
        return 0;
    }

    int copy(int s, int from, int t, int to, int n) {
        if (noSheet(s) || noSheet(t)) {
            return found(Due.BEYOND);
        }
        if (sheets[s] == null || sheets[t] == null) {
            return found(Due.MISSING);
        }
        if (bits[s] != bits[t]) {
            return found(Due.KIND);
        }
        if (from < 0 || to < 0 || n < 0
                || (long) from + n > sheets[s].length || (long) to + n > sheets[t].length) {
            return found(Due.BEYOND);
        }
        int[] old = sheets[s].clone();
        for (int i = 0; i < n; i++) {
            sheets[t][to + i] = old[from + i];
        }
        return n;
    }

    int lay(int person, int day, int s) {
        if (noPerson(person) || noDay(day) || noSheet(s)) {
            return found(Due.BEYOND);
        }
        if (sheets[s] == null) {
            return found(Due.MISSING);
        }
        List<Entry> come = new ArrayList<>();
        for (int i = 0; i < sheets[s].length; i++) {
            if (noDay(day + i)) {
                return found(Due.BEYOND);
            }
            if (sheets[s][i] >= 0 && sheets[s][i] <= 900) {
                come.add(new Entry(person, day + i, sheets[s][i], 0, day + i));
            }
        }
        if (now.entries.size() + come.size() > 60) {
            return found(Due.FULL);
        }
        keep();
        now.entries.addAll(come);
        return come.size();
    }

    int undo() {
        if (before.isEmpty()) {
            return found(Due.NONE);
        }
        now = before.remove(before.size() - 1);
        return before.size();
    }

    int told(int what) {
        if (what < 0 || what > 5) {
            return found(Due.BEYOND);
        }
        return new int[] {now.people.size(), now.places.size(), now.entries.size(), now.absences.size(),
            now.bars.size(), findings}[what];
    }
}
