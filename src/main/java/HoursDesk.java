/** A desk for hours owed to a town; DOC.md tells its terms (in capitals here) and its promises. */
public final class HoursDesk {
    private static final int BEYOND = -100001;
    private static final int MISSING = -100002;
    private static final int SIZE = -100003;
    private static final int KIND = -100004;
    private static final int FULL = -100005;
    private static final int NONE = -100006;

    private static final int LAST_DAY = 364;
    private static final int DAYS = 365;
    private static final int WEEK = 7;
    private static final int NOT_AT_ALL = -1;

    private static final int YOUNG = 1;
    private static final int SKILLED = 2;
    private static final int LAST_KIND = 3;
    /** For each kind the set of kinds that one of it is: itself and those that it is under. */
    private static final int[] KINDS_OF = {1, 3, 5, 11};

    private static final int MOST_PEOPLE = 8;
    private static final int MOST_PLACES = 3;
    private static final int MOST_ENTRIES = 60;
    private static final int MOST_ABSENCES = 30;
    private static final int MOST_KEPT = 20;
    private static final int SHEETS = 4;
    private static final int MOST_NUMBERS = 20;

    private static final int MOST_HOURS = 300;
    private static final int ALL_WEEKDAYS = 127;
    private static final int ALL_SKILLS = 15;

    private static final int WORK = 0;
    private static final int TRAVEL = 1;
    private static final int RAIN = 2;
    private static final int SORTS = 3;
    private static final int MOST_MINUTES = 900;
    private static final int MOST_TRAVEL = 300;
    private static final int HUNDREDTHS = 100;
    private static final int MINUTES_OF_HOUR = 60;
    private static final int DAY_LIMIT = 480;
    private static final int YOUNG_DAY_LIMIT = 240;

    private static final int COURT_DAYS = 28;
    private static final int PLAN_DAYS_LATER = 6;
    /** Euclid's steps for two ints never come near this. */
    private static final int MOST_STEPS = 100;

    private static final int ACT_PERSON = 0;
    private static final int ACT_EXTEND = 1;
    private static final int ACT_FREE = 2;
    private static final int ACT_PLACE = 3;
    private static final int ACT_OPEN = 4;
    private static final int ACT_BAR = 5;
    private static final int ACT_ENTRIES = 6;
    private static final int ACT_STRIKE = 7;
    private static final int ACT_RULE = 8;
    private static final int ACT_ABSENT = 9;
    private static final int ACT_REASON = 10;

    private final People people = new People();
    private final Places places = new Places();
    private final Entries entries = new Entries();
    private final Absences absences = new Absences();
    private final Sheets sheets = new Sheets();
    private final Acts acts = new Acts();
    private final Planner planner = new Planner();
    private int findings = 0;

    public HoursDesk() {
    }

    // ---- people, places

    public int person(int kind, int owes, int free, int skills, int due) {
        if (!within(kind, 0, LAST_KIND) || !within(owes, 1, MOST_HOURS) || !within(free, 0, ALL_WEEKDAYS)
                || !within(skills, 0, ALL_SKILLS) || !isDay(due)) {
            return finding(BEYOND);
        }
        if (people.count >= MOST_PEOPLE) {
            return finding(FULL);
        }
        int number = people.add(kind, owes, free, skills, due);
        keep(ACT_PERSON, number, 0);
        return number;
    }

    public int as(int person, int kind) {
        if (!people.has(person) || !within(kind, 0, LAST_KIND)) {
            return finding(BEYOND);
        }
        if (!people.isOfKind(person, kind)) {
            return finding(KIND);
        }
        return person;
    }

    public int of(int person, int what) {
        if (!people.has(person)) {
            return finding(BEYOND);
        }
        switch (what) {
            case 0:
                return people.kind[person];
            case 1:
                return people.owes[person];
            case 2:
                return people.free[person];
            case 3:
                return people.skills[person];
            case 4:
                return people.due[person];
            default:
                return finding(BEYOND);
        }
    }

    public int extend(int person, int due) {
        if (!people.has(person) || !isDay(due)) {
            return finding(BEYOND);
        }
        int was = people.due[person];
        if (due <= was) {
            return finding(SIZE);
        }
        people.due[person] = due;
        keep(ACT_EXTEND, person, was);
        return was;
    }

    public int free(int person, int set) {
        if (!people.has(person) || !within(set, 0, ALL_WEEKDAYS)) {
            return finding(BEYOND);
        }
        int was = people.free[person];
        people.free[person] = set;
        keep(ACT_FREE, person, was);
        return was;
    }

    public int place(int open, int asks, boolean leader, int least, int most) {
        if (!within(open, 0, ALL_WEEKDAYS) || !within(asks, 0, ALL_SKILLS)
                || !within(least, 1, MOST_PEOPLE) || !within(most, 1, MOST_PEOPLE)) {
            return finding(BEYOND);
        }
        if (least > most) {
            return finding(SIZE);
        }
        if (places.count >= MOST_PLACES) {
            return finding(FULL);
        }
        int number = places.add(open, asks, leader, least, most);
        keep(ACT_PLACE, number, 0);
        return number;
    }

    public int open(int place, int set) {
        if (!places.has(place) || !within(set, 0, ALL_WEEKDAYS)) {
            return finding(BEYOND);
        }
        int was = places.open[place];
        places.open[place] = set;
        keep(ACT_OPEN, place, was);
        return was;
    }

    public int bar(int person, int other, boolean on) {
        if (!people.has(person) || !people.has(other)) {
            return finding(BEYOND);
        }
        if (person == other) {
            return finding(SIZE);
        }
        boolean was = people.isBarred(person, other);
        people.setBarred(person, other, on);
        keep(ACT_BAR, person * MOST_PEOPLE + other, was ? 1 : 0);
        return was == on ? 0 : 1;
    }

    // ---- entries

    public int entry(int person, int day, int minutes, int sort, int known) {
        if (!people.has(person) || !isDay(day) || !within(minutes, 0, MOST_MINUTES)
                || !within(sort, 0, SORTS - 1) || !isDay(known)) {
            return finding(BEYOND);
        }
        if (known < day) {
            return finding(SIZE);
        }
        if (entries.count >= MOST_ENTRIES) {
            return finding(FULL);
        }
        int number = entries.add(person, day, minutes, sort, known);
        keep(ACT_ENTRIES, 0, 1);
        return number;
    }

    public int strike() {
        if (entries.count <= 0) {
            return finding(NONE);
        }
        int latest = entries.count - 1;
        int slot = keep(ACT_STRIKE, 0, 0);
        entries.tellRow(latest, acts.struck[slot]);
        entries.count = latest;
        return latest;
    }

    public int rule(int what, int v) {
        if (!within(what, 0, 1) || !within(v, 0, what == 0 ? MOST_TRAVEL : HUNDREDTHS)) {
            return finding(BEYOND);
        }
        int was = what == 0 ? entries.travelMost : entries.rainHundredths;
        setRule(what, v);
        keep(ACT_RULE, what, was);
        return was;
    }

    public int counted(int person, int day, int known) {
        if (!people.has(person) || !isDay(day) || !isDay(known)) {
            return finding(BEYOND);
        }
        return minutesUpTo(person, day, known);
    }

    public int countedOn(int person, int day, int known) {
        if (!people.has(person) || !isDay(day) || !isDay(known)) {
            return finding(BEYOND);
        }
        return entries.countBetween(person, day, day, known, people.dayLimit(person));
    }

    public int left(int person, int day, int known) {
        if (!people.has(person) || !isDay(day) || !isDay(known)) {
            return finding(BEYOND);
        }
        return Math.max(0, people.owedMinutes(person) - minutesUpTo(person, day, known));
    }

    // ---- plans

    public int plan(int day) {
        if (!isDay(day)) {
            return finding(BEYOND);
        }
        findPlan(day);
        return planner.howMany();
    }

    public int planned(int day, int person) {
        if (!isDay(day) || !people.has(person)) {
            return finding(BEYOND);
        }
        findPlan(day);
        int place = planner.placeOf(person);
        return place < MOST_PLACES ? place : finding(NONE);
    }

    public int gang(int day, int place) {
        if (!isDay(day) || !places.has(place)) {
            return finding(BEYOND);
        }
        findPlan(day);
        int size = 0;
        for (int person = 0; person < people.count; person++) {
            if (planner.placeOf(person) == place) {
                size++;
            }
        }
        return size;
    }

    public int plans(int day) {
        if (!isDay(day)) {
            return finding(BEYOND);
        }
        findPlan(day);
        return planner.ways;
    }

    public int when(int day, int n) {
        if (!isDay(day) || !within(n, 1, MOST_PEOPLE)) {
            return finding(BEYOND);
        }
        int last = Math.min(day + PLAN_DAYS_LATER, LAST_DAY);
        for (int later = day; later <= last; later++) {
            findPlan(later);
            if (planner.howMany() >= n) {
                return later;
            }
        }
        return finding(NONE);
    }

    // ---- absences

    public int absent(int person, int day) {
        if (!people.has(person) || !isDay(day)) {
            return finding(BEYOND);
        }
        if (absences.isAbsent(person, day)) {
            return finding(SIZE);
        }
        if (absences.count >= MOST_ABSENCES) {
            return finding(FULL);
        }
        int number = absences.add(person, day);
        keep(ACT_ABSENT, number, 0);
        return number;
    }

    public int reason(int absence, int day) {
        if (!absences.has(absence) || !within(day, NOT_AT_ALL, LAST_DAY)) {
            return finding(BEYOND);
        }
        if (day != NOT_AT_ALL && day < absences.day[absence]) {
            return finding(SIZE);
        }
        int was = absences.proved[absence];
        absences.proved[absence] = day;
        keep(ACT_REASON, absence, was);
        return was;
    }

    public int breaches(int person, int known) {
        if (!people.has(person) || !isDay(known)) {
            return finding(BEYOND);
        }
        return absences.countBreaches(person, 0, known, known);
    }

    public int court(int person, int known) {
        if (!people.has(person) || !isDay(known)) {
            return finding(BEYOND);
        }
        int day = absences.courtDay(person, known);
        return isDay(day) ? day : finding(NONE);
    }

    // ---- ends

    public int pace(int person, int day, boolean below) {
        if (!people.has(person) || !isDay(day)) {
            return finding(BEYOND);
        }
        int days = entries.daysSinceFirst(person, day);
        if (days <= 0) {
            return finding(NONE);
        }
        int minutes = minutesUpTo(person, day, day);
        int part = commonPart(minutes, days);
        if (part <= 0) {
            return finding(NONE);
        }
        return (below ? days : minutes) / part;
    }

    public int foretold(int person, int day) {
        if (!people.has(person) || !isDay(day)) {
            return finding(BEYOND);
        }
        int end = foretellEnd(person, day);
        return end == NONE ? finding(NONE) : end;
    }

    public int late(int day) {
        if (!isDay(day)) {
            return finding(BEYOND);
        }
        int number = 0;
        for (int person = 0; person < people.count; person++) {
            if (!isDone(person, day, day)) {
                int end = foretellEnd(person, day);
                if (end == NONE || end > people.due[person]) {
                    number++;
                }
            }
        }
        return number;
    }

    // ---- sheets, the whole

    public int sheet(int s, int bits, int n) {
        if (!isSheet(s) || (bits != 0 && bits != 8 && bits != 16 && bits != 32)) {
            return finding(BEYOND);
        }
        if (n < 0) {
            return finding(SIZE);
        }
        if (n > MOST_NUMBERS) {
            return finding(BEYOND);
        }
        int size = bits == 0 ? 0 : n;
        sheets.begin(s, bits, size);
        return size;
    }

    public int put(int s, int i, int v) {
        if (!isSheet(s)) {
            return finding(BEYOND);
        }
        if (sheets.isMissing(s)) {
            return finding(MISSING);
        }
        if (!within(i, 0, sheets.size[s] - 1)) {
            return finding(BEYOND);
        }
        sheets.numbers[s][i] = lowestBits(v, sheets.bits[s]);
        return 0;
    }

    public int copy(int s, int from, int t, int to, int n) {
        if (!isSheet(s) || !isSheet(t)) {
            return finding(BEYOND);
        }
        if (sheets.isMissing(s) || sheets.isMissing(t)) {
            return finding(MISSING);
        }
        if (sheets.bits[s] != sheets.bits[t]) {
            return finding(KIND);
        }
        if (!sheets.hasPart(s, from, n) || !sheets.hasPart(t, to, n)) {
            return finding(BEYOND);
        }
        System.arraycopy(sheets.numbers[s], from, sheets.numbers[t], to, n);
        return n;
    }

    public int lay(int person, int day, int s) {
        if (!people.has(person) || !isDay(day) || !isSheet(s)) {
            return finding(BEYOND);
        }
        if (sheets.isMissing(s)) {
            return finding(MISSING);
        }
        int size = sheets.size[s];
        if (day + size - 1 > LAST_DAY) {
            return finding(BEYOND);
        }
        int coming = sheets.countWithin(s, 0, MOST_MINUTES);
        if (entries.count + coming > MOST_ENTRIES) {
            return finding(FULL);
        }
        for (int i = 0; i < size; i++) {
            int minutes = sheets.numbers[s][i];
            if (within(minutes, 0, MOST_MINUTES)) {
                entries.add(person, day + i, minutes, WORK, day + i);
            }
        }
        keep(ACT_ENTRIES, 0, coming);
        return coming;
    }

    public int undo() {
        if (acts.count <= 0) {
            return finding(NONE);
        }
        takeBack(acts.pop());
        planner.forget();
        return acts.count;
    }

    public int told(int what) {
        switch (what) {
            case 0:
                return people.count;
            case 1:
                return places.count;
            case 2:
                return entries.count;
            case 3:
                return absences.count;
            case 4:
                return people.countBars();
            case 5:
                return findings;
            default:
                return finding(BEYOND);
        }
    }

    // ---- what the calls share

    private int finding(int which) {
        findings++;
        return which;
    }

    /** Every act that can be undone comes by here, so the plan found before it is forgotten here, too. */
    private int keep(int what, int index, int was) {
        planner.forget();
        return acts.push(what, index, was);
    }

    private void takeBack(int slot) {
        int index = acts.index[slot];
        int was = acts.was[slot];
        switch (acts.what[slot]) {
            case ACT_PERSON:
                people.count = index;
                break;
            case ACT_EXTEND:
                people.due[index] = was;
                break;
            case ACT_FREE:
                people.free[index] = was;
                break;
            case ACT_PLACE:
                places.count = index;
                break;
            case ACT_OPEN:
                places.open[index] = was;
                break;
            case ACT_BAR:
                people.setBarred(index / MOST_PEOPLE, index % MOST_PEOPLE, was == 1);
                break;
            case ACT_ENTRIES:
                entries.count -= was;
                break;
            case ACT_STRIKE:
                entries.addRow(acts.struck[slot]);
                break;
            case ACT_RULE:
                setRule(index, was);
                break;
            case ACT_ABSENT:
                absences.count = index;
                break;
            case ACT_REASON:
                absences.proved[index] = was;
                break;
            default:
                break;
        }
    }

    private void setRule(int what, int v) {
        if (what == 0) {
            entries.travelMost = v;
        } else {
            entries.rainHundredths = v;
        }
    }

    private int minutesUpTo(int person, int day, int known) {
        return entries.countBetween(person, 0, day, known, people.dayLimit(person));
    }

    private boolean isDone(int person, int day, int known) {
        return minutesUpTo(person, day, known) >= people.owedMinutes(person);
    }

    /** Fills the planner with THE PLAN of a DAY, unless it holds that one already. */
    private void findPlan(int day) {
        if (planner.day == day) {
            return;
        }
        int weekday = day % WEEK;
        planner.begin(day, comingOn(day, weekday), people.barred);
        int leaders = people.ofKind(SKILLED);
        for (int place = places.count - 1; place >= 0; place--) {
            if (hasBit(places.open[place], weekday)) {
                planner.weighGangs(place, places, people.withSkills(places.asks[place]), leaders);
                planner.addPlace();
            }
        }
        planner.end();
    }

    /** The set of people who are FREE on a DAY and not DONE by ENTRIES ahead of it. */
    private int comingOn(int day, int weekday) {
        int set = 0;
        for (int person = 0; person < people.count; person++) {
            if (hasBit(people.free[person], weekday) && !isDone(person, day - 1, day)) {
                set |= 1 << person;
            }
        }
        return set;
    }

    /** FORETOLD, or NONE; it is no finding as long as no act answers it. */
    private int foretellEnd(int person, int day) {
        int minutes = minutesUpTo(person, day, day);
        if (minutes <= 0) {
            return NONE;
        }
        int owed = people.owedMinutes(person) - minutes;
        if (owed <= 0) {
            return day;
        }
        int days = entries.daysSinceFirst(person, day);
        return day + (owed * days + minutes - 1) / minutes;
    }

    private static boolean within(int v, int least, int most) {
        return v >= least && v <= most;
    }

    private static boolean isDay(int day) {
        return within(day, 0, LAST_DAY);
    }

    private static boolean isSheet(int s) {
        return within(s, 0, SHEETS - 1);
    }

    private static boolean hasBit(int set, int bit) {
        return ((set >> bit) & 1) != 0;
    }

    private static int lowestBits(int v, int bits) {
        if (bits == 8) {
            return (byte) v;
        }
        if (bits == 16) {
            return (short) v;
        }
        return v;
    }

    private static int commonPart(int one, int other) {
        int a = one;
        int b = other;
        for (int step = 0; b != 0 && step < MOST_STEPS; step++) {
            int rest = a % b;
            a = b;
            b = rest;
        }
        return a;
    }

    /** PEOPLE and BARS: a column for each thing told, a person's number is its index. */
    private static final class People {
        final int[] kind = new int[MOST_PEOPLE];
        final int[] owes = new int[MOST_PEOPLE];
        final int[] free = new int[MOST_PEOPLE];
        final int[] skills = new int[MOST_PEOPLE];
        final int[] due = new int[MOST_PEOPLE];
        /** For each person the set of those it is barred from; each pair stands in both. */
        final int[] barred = new int[MOST_PEOPLE];
        int count = 0;

        boolean has(int number) {
            return number >= 0 && number < count;
        }

        int add(int ofKind, int hours, int weekdays, int can, int dueDay) {
            int number = count;
            kind[number] = ofKind;
            owes[number] = hours;
            free[number] = weekdays;
            skills[number] = can;
            due[number] = dueDay;
            count = number + 1;
            return number;
        }

        boolean isOfKind(int number, int wanted) {
            return hasBit(KINDS_OF[kind[number]], wanted);
        }

        int dayLimit(int number) {
            return hasBit(KINDS_OF[kind[number]], YOUNG) ? YOUNG_DAY_LIMIT : DAY_LIMIT;
        }

        int owedMinutes(int number) {
            return MINUTES_OF_HOUR * owes[number];
        }

        int ofKind(int wanted) {
            int set = 0;
            for (int number = 0; number < count; number++) {
                if (isOfKind(number, wanted)) {
                    set |= 1 << number;
                }
            }
            return set;
        }

        int withSkills(int asked) {
            int set = 0;
            for (int number = 0; number < count; number++) {
                if ((asked & ~skills[number]) == 0) {
                    set |= 1 << number;
                }
            }
            return set;
        }

        boolean isBarred(int one, int other) {
            return hasBit(barred[one], other);
        }

        void setBarred(int one, int other, boolean on) {
            if (on) {
                barred[one] |= 1 << other;
                barred[other] |= 1 << one;
            } else {
                barred[one] &= ~(1 << other);
                barred[other] &= ~(1 << one);
            }
        }

        int countBars() {
            int ends = 0;
            for (int number = 0; number < count; number++) {
                ends += Integer.bitCount(barred[number]);
            }
            return ends / 2;
        }
    }

    /** PLACES: a column for each thing told, a PLACE's number is its index. */
    private static final class Places {
        final int[] open = new int[MOST_PLACES];
        final int[] asks = new int[MOST_PLACES];
        final boolean[] leader = new boolean[MOST_PLACES];
        final int[] least = new int[MOST_PLACES];
        final int[] most = new int[MOST_PLACES];
        int count = 0;

        boolean has(int number) {
            return number >= 0 && number < count;
        }

        int add(int weekdays, int skills, boolean needsLeader, int fewest, int top) {
            int number = count;
            open[number] = weekdays;
            asks[number] = skills;
            leader[number] = needsLeader;
            least[number] = fewest;
            most[number] = top;
            count = number + 1;
            return number;
        }
    }

    /** ENTRIES and the RULES by which they count. */
    private static final class Entries {
        final int[] person = new int[MOST_ENTRIES];
        final int[] day = new int[MOST_ENTRIES];
        final int[] minutes = new int[MOST_ENTRIES];
        final int[] sort = new int[MOST_ENTRIES];
        final int[] known = new int[MOST_ENTRIES];
        int count = 0;
        int travelMost = 60;
        int rainHundredths = 50;
        /** Minutes by SORT and DAY while they are counted; all 0 again behind each count. */
        private final int[][] sums = new int[SORTS][DAYS];

        int add(int who, int on, int length, int ofSort, int since) {
            int number = count;
            person[number] = who;
            day[number] = on;
            minutes[number] = length;
            sort[number] = ofSort;
            known[number] = since;
            count = number + 1;
            return number;
        }

        void tellRow(int number, int[] row) {
            row[0] = person[number];
            row[1] = day[number];
            row[2] = minutes[number];
            row[3] = sort[number];
            row[4] = known[number];
        }

        void addRow(int[] row) {
            add(row[0], row[1], row[2], row[3], row[4]);
        }

        /** What counts of a person's DAYS from first to last, by ENTRIES KNOWN since asKnown at most. */
        int countBetween(int who, int first, int last, int asKnown, int dayLimit) {
            for (int e = 0; e < count; e++) {
                if (person[e] == who && day[e] >= first && day[e] <= last && known[e] <= asKnown) {
                    sums[sort[e]][day[e]] += minutes[e];
                }
            }
            int total = 0;
            for (int e = 0; e < count; e++) {
                total += takeDay(day[e], dayLimit);
            }
            return total;
        }

        /** Takes a DAY's sums away, so that its second ENTRY adds nothing. */
        private int takeDay(int on, int dayLimit) {
            int travel = sums[TRAVEL][on] < travelMost ? sums[TRAVEL][on] : travelMost;
            int rain = sums[RAIN][on] * rainHundredths / HUNDREDTHS;
            int all = sums[WORK][on] + travel + rain;
            sums[WORK][on] = 0;
            sums[TRAVEL][on] = 0;
            sums[RAIN][on] = 0;
            return all < dayLimit ? all : dayLimit;
        }

        /** How many DAYS there are from a person's first ENTRY with minutes, both counted; 0 without one. */
        int daysSinceFirst(int who, int on) {
            int first = on + 1;
            for (int e = 0; e < count; e++) {
                if (person[e] == who && known[e] <= on && minutes[e] > 0) {
                    first = Math.min(first, day[e]);
                }
            }
            return on - first + 1;
        }
    }

    /** ABSENCES and the DAYS from which their REASONS are proved. */
    private static final class Absences {
        final int[] person = new int[MOST_ABSENCES];
        final int[] day = new int[MOST_ABSENCES];
        final int[] proved = new int[MOST_ABSENCES];
        int count = 0;

        boolean has(int number) {
            return number >= 0 && number < count;
        }

        boolean isAbsent(int who, int on) {
            for (int a = 0; a < count; a++) {
                if (person[a] == who && day[a] == on) {
                    return true;
                }
            }
            return false;
        }

        int add(int who, int on) {
            int number = count;
            person[number] = who;
            day[number] = on;
            proved[number] = NOT_AT_ALL;
            count = number + 1;
            return number;
        }

        private boolean isBreach(int a, int who, int known) {
            return person[a] == who && day[a] <= known && (proved[a] == NOT_AT_ALL || proved[a] > known);
        }

        int countBreaches(int who, int first, int last, int known) {
            int number = 0;
            for (int a = 0; a < count; a++) {
                if (isBreach(a, who, known) && day[a] >= first && day[a] <= last) {
                    number++;
                }
            }
            return number;
        }

        /** COURT, or a number above every DAY. */
        int courtDay(int who, int known) {
            int court = DAYS;
            for (int a = 0; a < count; a++) {
                if (day[a] < court && isBreach(a, who, known)
                        && countBreaches(who, day[a] - COURT_DAYS, day[a] - 1, known) > 0) {
                    court = day[a];
                }
            }
            return court;
        }
    }

    /** SHEETS: rows that are made once; bits 0 says that a sheet is MISSING. */
    private static final class Sheets {
        final int[] bits = new int[SHEETS];
        final int[] size = new int[SHEETS];
        final int[][] numbers = new int[SHEETS][MOST_NUMBERS];

        boolean isMissing(int s) {
            return bits[s] == 0;
        }

        void begin(int s, int ofBits, int n) {
            bits[s] = ofBits;
            size[s] = n;
            for (int i = 0; i < MOST_NUMBERS; i++) {
                numbers[s][i] = 0;
            }
        }

        /** Asked without a sum, which could go beyond the ints. */
        boolean hasPart(int s, int from, int n) {
            return from >= 0 && n >= 0 && n <= size[s] && from <= size[s] - n;
        }

        int countWithin(int s, int least, int most) {
            int number = 0;
            for (int i = 0; i < size[s]; i++) {
                if (within(numbers[s][i], least, most)) {
                    number++;
                }
            }
            return number;
        }
    }

    /** The latest acts with what they put away, in a ring: a new one takes the oldest one's slot. */
    private static final class Acts {
        final int[] what = new int[MOST_KEPT];
        final int[] index = new int[MOST_KEPT];
        final int[] was = new int[MOST_KEPT];
        /** The struck ENTRY; its number's row may be written anew before the strike is undone. */
        final int[][] struck = new int[MOST_KEPT][5];
        int count = 0;
        private int next = 0;

        int push(int act, int at, int before) {
            int slot = next;
            what[slot] = act;
            index[slot] = at;
            was[slot] = before;
            next = (slot + 1) % MOST_KEPT;
            count = Math.min(count + 1, MOST_KEPT);
            return slot;
        }

        int pop() {
            next = (next + MOST_KEPT - 1) % MOST_KEPT;
            count--;
            return next;
        }
    }

    /**
     * Finds THE PLAN place by place. A plan's worth is one number: how many people are at PLACES, above
     * two bits for each person (3 at PLACE 0, 2 at PLACE 1, 1 at PLACE 2, 0 at none), person 0's highest.
     * So the greatest worth is THE PLAN's: the most people, then the first as told person by person.
     *
     * Loops over the subsets of a set go downwards: (subset - 1) & set is less than subset, so they end at 0.
     */
    private static final class Planner {
        private static final int STALE = -1;
        private static final int SETS = 256;
        private static final int ONE_PERSON = 16;

        int day = STALE;
        int ways = 0;
        private int worth = 0;
        private int coming = 0;
        /** For each set of people the two-bit digits 1 of its members. */
        private final int[] digits = new int[SETS];
        private final boolean[] hasBar = new boolean[SETS];
        /** For each set what it is worth as the gang of the PLACE at hand; 0: it can't be that. */
        private final int[] gangWorth = new int[SETS];
        /** For each set the greatest worth of its people at the PLACES added so far. */
        private final int[] best = new int[SETS];
        /** For each set how many plans have as many people at PLACES as the best one. */
        private final int[] bestWays = new int[SETS];

        Planner() {
            for (int person = 0; person < MOST_PEOPLE; person++) {
                int alone = 1 << person;
                for (int earlier = 0; earlier < alone; earlier++) {
                    digits[alone | earlier] = digits[earlier] + (1 << shiftOf(person));
                }
            }
        }

        private static int shiftOf(int person) {
            return 2 * (MOST_PEOPLE - 1 - person);
        }

        void forget() {
            day = STALE;
        }

        void begin(int ofDay, int comingSet, int[] barred) {
            day = ofDay;
            coming = comingSet;
            for (int set = 0; set < SETS; set++) {
                best[set] = 0;
                bestWays[set] = 1;
            }
            for (int person = 0; person < MOST_PEOPLE; person++) {
                int alone = 1 << person;
                for (int earlier = 0; earlier < alone; earlier++) {
                    hasBar[alone | earlier] = hasBar[earlier] || (barred[person] & earlier) != 0;
                }
            }
        }

        void weighGangs(int place, Places places, int able, int leaders) {
            int least = places.least[place];
            int most = places.most[place];
            boolean leader = places.leader[place];
            for (int set = coming; set > 0; set = (set - 1) & coming) {
                int size = Integer.bitCount(set);
                boolean fits = size >= least && size <= most && (set & ~able) == 0 && !hasBar[set]
                        && (!leader || (set & leaders) != 0);
                gangWorth[set] = fits ? (size << ONE_PERSON) + (MOST_PLACES - place) * digits[set] : 0;
            }
        }

        /** Greater sets first, as each one asks for what its smaller sets were worth before this PLACE. */
        void addPlace() {
            for (int set = coming; set > 0; set = (set - 1) & coming) {
                addPlaceTo(set);
            }
        }

        private void addPlaceTo(int set) {
            int top = best[set];
            int number = bestWays[set];
            for (int gang = set; gang > 0; gang = (gang - 1) & set) {
                if (gangWorth[gang] > 0) {
                    int other = gangWorth[gang] + best[set & ~gang];
                    int more = (other >> ONE_PERSON) - (top >> ONE_PERSON);
                    if (more > 0) {
                        number = bestWays[set & ~gang];
                    } else if (more == 0) {
                        number += bestWays[set & ~gang];
                    }
                    top = Math.max(top, other);
                }
            }
            best[set] = top;
            bestWays[set] = number;
        }

        void end() {
            worth = best[coming];
            ways = bestWays[coming];
        }

        int howMany() {
            return worth >> ONE_PERSON;
        }

        /** The PLACE of a person, or MOST_PLACES, if it has none. */
        int placeOf(int person) {
            return MOST_PLACES - ((worth >> shiftOf(person)) & 3);
        }
    }
}
