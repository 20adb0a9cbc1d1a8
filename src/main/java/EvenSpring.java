/**
 * A spring that heals on the days that are holy by the true calendar and harms on all others,
 * with calendars, pilgrims who trust one of them, jugs, a text that tells a spring, and sheets.
 */
public final class EvenSpring {
    private static final int BEYOND = -1000000001;
    private static final int FULL = -1000000002;
    private static final int KIND = -1000000003;
    private static final int NONE = -1000000004;
    private static final int STATE = -1000000005;
    private static final int MISSING = -1000000006;
    private static final int SIZE = -1000000007;
    private static final int FINDINGS = 7;

    private static final int MOST_CALENDARS = 6;
    private static final int MOST_PILGRIMS = 8;
    private static final int MOST_ILL = 99;
    private static final int MOST_BATHED = 9999;
    private static final int MOST_JUGS = 99;
    private static final int MOST_BYTES = 120;
    private static final int MOST_NUMBERS = 40;
    private static final int SHEETS = 4;

    private static final int LAST_DAY = 99999;
    private static final int WEEK = 7;
    private static final int JUG_DAY = 2;
    private static final int NEAR = 400;
    private static final int CLOSE = 100;
    private static final int FAR = 2000;
    private static final int NEVER = NEAR + 1;

    private static final int EVERY_DAY = -1;
    private static final int MOST_TRUTH = 5;
    private static final int LEAST_POWER = 1;
    private static final int MOST_POWER = 50;
    private static final int FIRST_POWER = 10;

    private final Spring here = new Spring();
    private final Spring kept = new Spring();
    private boolean isKept;
    private final SpringText text = new SpringText();
    private final Sheet[] sheets = new Sheet[SHEETS];
    private final int[] findings = new int[FINDINGS];

    // These are made once and used by every call that looks ahead, so that no call makes objects.
    private final int[] ahead = new int[NEAR];
    private final Pilgrim trial = new Pilgrim();
    private final Calendar tried = new Calendar();

    public EvenSpring() {
        for (int s = 0; s < sheets.length; s++) {
            sheets[s] = new Sheet();
        }
    }

    // ---- calendars

    public int calendar(int kind) {
        if (!Calendar.allows(Calendar.KIND_OF, kind)) {
            return found(BEYOND);
        }
        if (here.calendarCount >= MOST_CALENDARS) {
            return found(FULL);
        }
        here.addCalendar(kind);
        return here.calendarCount - 1;
    }

    public int of(int calendar, int what) {
        Calendar one = here.calendarAt(calendar);
        if (one == null || !Calendar.isField(what)) {
            return found(BEYOND);
        }
        return one.value(what);
    }

    public int set(int calendar, int what, int v) {
        Calendar one = here.calendarAt(calendar);
        if (one == null || what == Calendar.KIND_OF || !Calendar.allows(what, v)) {
            return found(BEYOND);
        }
        return one.change(what, v);
    }

    public int turn(int calendar, int kind) {
        Calendar one = here.calendarAt(calendar);
        if (one == null || !Calendar.allows(Calendar.KIND_OF, kind)) {
            return found(BEYOND);
        }
        return one.change(Calendar.KIND_OF, kind);
    }

    public int as(int calendar, int kind) {
        Calendar one = here.calendarAt(calendar);
        if (one == null || !Calendar.allows(Calendar.KIND_OF, kind)) {
            return found(BEYOND);
        }
        if (!one.isOfKind(kind)) {
            return found(KIND);
        }
        return one.value(Calendar.BEGIN);
    }

    public int date(int calendar, int day, int what) {
        Calendar one = here.calendarAt(calendar);
        if (one == null || !within(day, 0, LAST_DAY) || !within(what, 0, 3)) {
            return found(BEYOND);
        }
        switch (what) {
            case 0:
                return one.dateAt(day);
            case 1:
                return one.monthAt(day);
            case 2:
                return one.isHoly(day) ? 1 : 0;
            default:
                return one.runsAt(day);
        }
    }

    public int law(int what, int v) {
        int was;
        if (what == 0 && within(v, LEAST_POWER, MOST_POWER)) {
            was = here.power;
            here.power = v;
            return was;
        }
        if (what == 1 && within(v, 0, MOST_TRUTH)) {
            was = here.truth;
            here.truth = v;
            return was;
        }
        return found(BEYOND);
    }

    // ---- pilgrims, jugs

    public int pilgrim(int ill, int calendar) {
        if (!within(ill, 0, MOST_ILL) || !here.canTrust(calendar)) {
            return found(BEYOND);
        }
        if (here.pilgrimCount >= MOST_PILGRIMS) {
            return found(FULL);
        }
        here.addPilgrim(ill, calendar);
        return here.pilgrimCount - 1;
    }

    public int about(int pilgrim, int what) {
        Pilgrim one = here.pilgrimAt(pilgrim);
        if (one == null || !within(what, 0, 2)) {
            return found(BEYOND);
        }
        if (what == 0) {
            return one.ill;
        }
        return what == 1 ? one.trusts : one.bathed;
    }

    public int mind(int pilgrim, int what, int v) {
        Pilgrim one = here.pilgrimAt(pilgrim);
        int was;
        if (one == null) {
            return found(BEYOND);
        }
        if (what == 0 && within(v, 0, MOST_ILL)) {
            was = one.ill;
            one.ill = v;
            return was;
        }
        if (what == 1 && here.canTrust(v)) {
            was = one.trusts;
            one.trusts = v;
            return was;
        }
        return found(BEYOND);
    }

    public int drink(int pilgrim, int v) {
        Pilgrim one = here.pilgrimAt(pilgrim);
        if (one == null || !within(v, 0, 1)) {
            return found(BEYOND);
        }
        boolean good = v == 1;
        if (!here.takeJug(good)) {
            return found(STATE);
        }
        one.takeWater(good, here.power);
        return one.ill;
    }

    public int bathe(int pilgrim) {
        Pilgrim one = here.pilgrimAt(pilgrim);
        if (one == null) {
            return found(BEYOND);
        }
        one.takeBath(here.isHolyBy(here.truth, here.day), here.power);
        return one.ill;
    }

    // ---- days

    public int days(int n) {
        if (!within(n, 1, NEAR)) {
            return found(BEYOND);
        }
        if (here.day > LAST_DAY - n) {
            return found(STATE);
        }
        for (int i = 0; i < n; i++) {
            here.passDay();
        }
        return Integer.bitCount(here.wellSet());
    }

    public int now(int what) {
        switch (what) {
            case 0:
                return here.day;
            case 1:
                return here.power;
            case 2:
                return here.truth;
            case 3:
                return here.good;
            case 4:
                return here.bad;
            case 5:
                return here.illOfAll();
            case 6:
                return here.wellSet();
            default:
                return found(BEYOND);
        }
    }

    public int on(int pilgrim, int n, int what) {
        Pilgrim one = here.pilgrimAt(pilgrim);
        if (one == null || !within(n, 0, NEAR) || !within(what, 0, 1)) {
            return found(BEYOND);
        }
        lookAhead(n);
        tryDays(one, n, here.truth, here.power);
        return what == 0 ? trial.ill : trial.bathed;
    }

    public int well(int pilgrim) {
        Pilgrim one = here.pilgrimAt(pilgrim);
        if (one == null) {
            return found(BEYOND);
        }
        lookAhead(NEAR);
        int wait = daysToWell(one, one.trusts);
        return wait == NEVER ? found(NONE) : wait;
    }

    // ---- dates

    public int next(int calendar) {
        Calendar one = here.calendarAt(calendar);
        if (one == null) {
            return found(BEYOND);
        }
        for (int i = 0; i <= NEAR; i++) {
            if (one.isHoly(here.day + i)) {
                return here.day + i;
            }
        }
        return found(NONE);
    }

    public int agree(int calendar, int other, int n) {
        if (!here.hasBoth(calendar, other) || !within(n, 1, NEAR)) {
            return found(BEYOND);
        }
        lookAhead(n);
        int agreed = 0;
        for (int i = 0; i < n; i++) {
            if (agreeAhead(calendar, other, i)) {
                agreed++;
            }
        }
        return agreed;
    }

    public int row(int calendar, int other, int n) {
        if (!here.hasBoth(calendar, other) || !within(n, 1, NEAR)) {
            return found(BEYOND);
        }
        lookAhead(n);
        int longest = 0;
        int length = 0;
        for (int i = 0; i < n; i++) {
            length = agreeAhead(calendar, other, i) ? length + 1 : 0;
            longest = Math.max(longest, length);
        }
        return longest;
    }

    public int meet(int set) {
        if (!within(set, 1, (1 << here.calendarCount) - 1)) {
            return found(BEYOND);
        }
        for (int i = 0; i <= FAR; i++) {
            if (here.holySet(here.day + i) == set) {
                return here.day + i;
            }
        }
        return found(NONE);
    }

    public int both(int calendar, int date, int other, int date2) {
        Calendar one = here.calendarAt(calendar);
        Calendar two = here.calendarAt(other);
        if (one == null || two == null || calendar == other) {
            return found(BEYOND);
        }
        if (!Calendar.allows(Calendar.LENGTH, date) || !Calendar.allows(Calendar.LENGTH, date2)) {
            return found(BEYOND);
        }
        for (int i = 0; i <= FAR; i++) {
            int day = here.day + i;
            if (one.dateAt(day) == date && two.dateAt(day) == date2) {
                return day;
            }
        }
        return found(NONE);
    }

    // ---- what is best

    public int trust(int pilgrim) {
        Pilgrim one = here.pilgrimAt(pilgrim);
        if (one == null) {
            return found(BEYOND);
        }
        lookAhead(NEAR);
        int best = EVERY_DAY;
        int soonest = NEVER;
        for (int c = 0; c < here.calendarCount; c++) {
            int wait = daysToWell(one, c);
            if (wait < soonest) {
                soonest = wait;
                best = c;
            }
        }
        int always = daysToWell(one, EVERY_DAY);
        if (always < soonest) {
            return EVERY_DAY;
        }
        return soonest == NEVER ? found(NONE) : best;
    }

    public int truth(int n) {
        if (!within(n, 1, CLOSE)) {
            return found(BEYOND);
        }
        if (here.calendarCount == 0) {
            return found(NONE);
        }
        lookAhead(n);
        int best = 0;
        int least = illOfAllAhead(n, 0);
        for (int c = 1; c < here.calendarCount; c++) {
            int ill = illOfAllAhead(n, c);
            if (ill < least) {
                least = ill;
                best = c;
            }
        }
        return best;
    }

    public int cure(int pilgrim) {
        Pilgrim one = here.pilgrimAt(pilgrim);
        if (one == null) {
            return found(BEYOND);
        }
        if (one.ill == 0) {
            return found(STATE);
        }
        trial.become(one);
        for (int i = 0; i <= FAR; i++) {
            int day = here.day + i;
            if (here.isHolyBy(here.truth, day)) {
                trial.takeBath(true, here.power);
            }
            if (trial.ill == 0) {
                return day;
            }
        }
        return found(NONE);
    }

    public int kind(int calendar, int n) {
        return bestValue(calendar, Calendar.KIND_OF, n, NEAR);
    }

    public int begin(int calendar, int n) {
        return bestValue(calendar, Calendar.BEGIN, n, CLOSE);
    }

    public int power(int n) {
        if (!within(n, 1, CLOSE)) {
            return found(BEYOND);
        }
        lookAhead(n);
        int best = LEAST_POWER;
        int most = -1;
        for (int p = LEAST_POWER; p <= MOST_POWER; p++) {
            int healed = wellAhead(n, p);
            if (healed > most) {
                most = healed;
                best = p;
            }
        }
        return best;
    }

    // ---- the text

    public int feed(int bytes, int n) {
        if (!within(n, 1, 4)) {
            return found(BEYOND);
        }
        if (text.length > MOST_BYTES - n) {
            return found(FULL);
        }
        for (int i = n - 1; i >= 0; i--) {
            text.add((byte) (bytes >> (8 * i)));
        }
        return text.length;
    }

    public int wipe() {
        int had = text.length;
        text.length = 0;
        return had;
    }

    public int spring() {
        int items = text.tell(here);
        if (items >= 0) {
            here.become(text.told);
        }
        text.length = 0;
        return items;
    }

    // ---- sheets

    public int sheet(int s, int bits, int n) {
        Sheet one = sheetAt(s);
        if (one == null || !Sheet.allows(bits)) {
            return found(BEYOND);
        }
        if (n < 0) {
            return found(SIZE);
        }
        if (n > MOST_NUMBERS) {
            return found(BEYOND);
        }
        one.lay(bits, n);
        return one.size;
    }

    public long write(int s, int i, long v) {
        Sheet one = sheetAt(s);
        if (one == null) {
            return found(BEYOND);
        }
        if (one.isMissing()) {
            return found(MISSING);
        }
        if (!within(i, 0, one.size - 1)) {
            return found(BEYOND);
        }
        long was = one.numberAt(i);
        one.put(i, v);
        return was;
    }

    public int copy(int s, int from, int t, int to, int n) {
        Sheet source = sheetAt(s);
        Sheet target = sheetAt(t);
        if (source == null || target == null) {
            return found(BEYOND);
        }
        if (source.isMissing() || target.isMissing()) {
            return found(MISSING);
        }
        if (source.bits != target.bits) {
            return found(KIND);
        }
        if (!source.hasRange(from, n) || !target.hasRange(to, n)) {
            return found(BEYOND);
        }
        System.arraycopy(source.numbers, from, target.numbers, to, n);
        return n;
    }

    public int lays(int s) {
        Sheet one = sheetAt(s);
        if (one == null) {
            return found(BEYOND);
        }
        if (one.isMissing()) {
            return found(MISSING);
        }
        int came = 0;
        for (int i = 0; i < one.size; i++) {
            Pilgrim p = here.pilgrimAt(i);
            long ill = one.numberAt(i);
            if (p != null && ill >= 0 && ill <= MOST_ILL) {
                p.ill = (int) ill;
                came++;
            }
        }
        return came;
    }

    public int book(int s, int pilgrim) {
        Sheet one = sheetAt(s);
        if (one == null) {
            return found(BEYOND);
        }
        if (one.isMissing()) {
            return found(MISSING);
        }
        Pilgrim p = here.pilgrimAt(pilgrim);
        if (p == null) {
            return found(BEYOND);
        }
        lookAhead(one.size);
        trial.become(p);
        for (int i = 0; i < one.size && i < ahead.length; i++) {
            one.put(i, trial.ill);
            trial.passDay(ahead[i], here.truth, here.power);
        }
        return one.size;
    }

    public int read(int s, int pilgrim) {
        Sheet one = sheetAt(s);
        if (one == null) {
            return found(BEYOND);
        }
        if (one.isMissing()) {
            return found(MISSING);
        }
        Pilgrim p = here.pilgrimAt(pilgrim);
        if (p == null) {
            return found(BEYOND);
        }
        lookAhead(one.size);
        int pairs = 0;
        for (int t = 0; t < here.calendarCount; t++) {
            for (int c = EVERY_DAY; c < here.calendarCount; c++) {
                if (makesJustSo(one, p, t, c)) {
                    pairs++;
                }
            }
        }
        return pairs;
    }

    // ---- images

    public int image() {
        kept.become(here);
        isKept = true;
        return 1;
    }

    public int undo() {
        if (!isKept) {
            return found(NONE);
        }
        here.become(kept);
        return here.calendarCount;
    }

    public int tear() {
        int was = isKept ? 1 : 0;
        isKept = false;
        return was;
    }

    public int count(int what) {
        switch (what) {
            case 0:
                return here.calendarCount;
            case 1:
                return text.length;
            case 2:
                return here.pilgrimCount;
            case 3:
                return here.bathedOfAll();
            default:
                return found(BEYOND);
        }
    }

    public int status(int which) {
        if (!within(which, -1, FINDINGS - 1)) {
            return found(BEYOND);
        }
        if (which >= 0) {
            return findings[which];
        }
        int all = 0;
        for (int i = 0; i < findings.length; i++) {
            all += findings[i];
        }
        return all;
    }

    // ---- helpers

    private int found(int finding) {
        int which = BEYOND - finding;
        if (which >= 0 && which < findings.length) {
            findings[which]++;
        }
        return finding;
    }

    private Sheet sheetAt(int s) {
        return s >= 0 && s < sheets.length ? sheets[s] : null;
    }

    /** Notes for each of the n days from now on the set of calendars by which it is holy. */
    private void lookAhead(int n) {
        for (int i = 0; i < n && i < ahead.length; i++) {
            ahead[i] = here.holySet(here.day + i);
        }
    }

    private boolean agreeAhead(int calendar, int other, int i) {
        return i >= 0 && i < ahead.length && isIn(ahead[i], calendar) == isIn(ahead[i], other);
    }

    /** The trial pilgrim goes through n days that were looked at, in place of one. */
    private void tryDays(Pilgrim one, int n, int truth, int power) {
        trial.become(one);
        for (int i = 0; i < n && i < ahead.length && trial.ill > 0; i++) {
            trial.passDay(ahead[i], truth, power);
        }
    }

    private int daysToWell(Pilgrim one, int trusts) {
        trial.become(one);
        trial.trusts = trusts;
        for (int i = 0; i < ahead.length; i++) {
            if (trial.ill == 0) {
                return i;
            }
            trial.passDay(ahead[i], here.truth, here.power);
        }
        return trial.ill == 0 ? NEAR : NEVER;
    }

    private int illOfAllAhead(int n, int truth) {
        int all = 0;
        for (int p = 0; p < here.pilgrimCount; p++) {
            Pilgrim one = here.pilgrimAt(p);
            if (one != null) {
                tryDays(one, n, truth, here.power);
                all += trial.ill;
            }
        }
        return all;
    }

    private int wellAhead(int n, int power) {
        int healed = 0;
        for (int p = 0; p < here.pilgrimCount; p++) {
            Pilgrim one = here.pilgrimAt(p);
            if (one != null) {
                tryDays(one, n, here.truth, power);
                healed += trial.ill == 0 ? 1 : 0;
            }
        }
        return healed;
    }

    /** The least value of a field with which a calendar agrees most with the true one in n days. */
    private int bestValue(int calendar, int what, int n, int mostDays) {
        Calendar one = here.calendarAt(calendar);
        if (one == null || !within(n, 1, mostDays)) {
            return found(BEYOND);
        }
        if (here.calendarAt(here.truth) == null) {
            return found(STATE);
        }
        int best = Calendar.least(what);
        // The true calendar stays the true one with any value, and agrees with itself on every day.
        if (calendar == here.truth) {
            return best;
        }
        lookAhead(n);
        tried.become(one);
        int most = -1;
        int last = Calendar.greatest(what);
        for (int v = best; v <= last; v++) {
            tried.change(what, v);
            int agreed = agreementsOfTried(n);
            if (agreed > most) {
                most = agreed;
                best = v;
            }
        }
        return best;
    }

    private int agreementsOfTried(int n) {
        int agreed = 0;
        for (int i = 0; i < n && i < ahead.length; i++) {
            if (tried.isHoly(here.day + i) == isIn(ahead[i], here.truth)) {
                agreed++;
            }
        }
        return agreed;
    }

    private boolean makesJustSo(Sheet told, Pilgrim one, int truth, int trusts) {
        trial.become(one);
        trial.trusts = trusts;
        for (int i = 0; i < told.size && i < ahead.length; i++) {
            if (told.numberAt(i) != trial.ill) {
                return false;
            }
            trial.passDay(ahead[i], truth, here.power);
        }
        return true;
    }

    private static boolean within(int v, int least, int most) {
        return v >= least && v <= most;
    }

    private static boolean isIn(int set, int number) {
        return number >= 0 && number < MOST_CALENDARS && (set >> number & 1) == 1;
    }

    /** One calendar: its kind and its four numbers. */
    private static final class Calendar {
        private static final int KIND_OF = 0;
        private static final int BEGIN = 1;
        private static final int LENGTH = 2;
        private static final int LEFT = 3;
        private static final int REFORM = 4;
        private static final int FIELDS = 5;

        private static final int COUNT = 0;
        private static final int OLD = 1;
        private static final int NEW = 2;
        private static final int COG = 3;
        private static final int LEAP = 4;
        private static final int MONK = 5;

        private static final int[] LEAST = {COUNT, 0, 1, 0, 0};
        private static final int[] MOST = {MONK, 99, 60, 99, 9999};
        private static final int[] FIRST = {COUNT, 0, 30, 11, 50};

        private final int[] fields = new int[FIELDS];

        static boolean isField(int what) {
            return what >= 0 && what < FIELDS;
        }

        static boolean allows(int what, int v) {
            return isField(what) && v >= LEAST[what] && v <= MOST[what];
        }

        static int least(int what) {
            return isField(what) ? LEAST[what] : 0;
        }

        static int greatest(int what) {
            return isField(what) ? MOST[what] : 0;
        }

        void startAs(int kind) {
            System.arraycopy(FIRST, 0, fields, 0, FIELDS);
            fields[KIND_OF] = kind;
        }

        void become(Calendar other) {
            System.arraycopy(other.fields, 0, fields, 0, FIELDS);
        }

        int value(int what) {
            return isField(what) ? fields[what] : 0;
        }

        int change(int what, int v) {
            if (!allows(what, v)) {
                return 0;
            }
            int was = fields[what];
            fields[what] = v;
            return was;
        }

        boolean isOfKind(int kind) {
            int own = fields[KIND_OF];
            if (own == kind || kind == COUNT) {
                return true;
            }
            return own == LEAP && kind == NEW || own == MONK && kind == OLD;
        }

        // It divides, so it is 1 at least even in a slot that no calendar has yet.
        private int length() {
            return fields[LENGTH] < 1 ? 1 : fields[LENGTH];
        }

        int runsAt(int day) {
            int counted = day + fields[BEGIN];
            switch (fields[KIND_OF]) {
                case NEW:
                    return runsAsNew(day);
                case COG:
                    return counted + day / WEEK;
                case LEAP:
                    return runsAsNew(day) + runsAsNew(day) / length() / 4;
                case MONK:
                    return counted - jugDaysUpTo(day);
                default:
                    return counted;
            }
        }

        private int runsAsNew(int day) {
            return day + fields[BEGIN] + (day >= fields[REFORM] ? fields[LEFT] : 0);
        }

        private static int jugDaysUpTo(int day) {
            return (day + WEEK - JUG_DAY) / WEEK;
        }

        int dateAt(int day) {
            return runsAt(day) % length() + 1;
        }

        int monthAt(int day) {
            return runsAt(day) / length();
        }

        boolean isHoly(int day) {
            int runs = runsAt(day);
            int length = length();
            int date = runs % length + 1;
            switch (fields[KIND_OF]) {
                case COG:
                    return (date + runs / length) % 2 == 0;
                case LEAP:
                    return date % 2 == 0 || date == 1;
                case MONK:
                    return date % 2 == 0 && day % WEEK != JUG_DAY;
                default:
                    return date % 2 == 0;
            }
        }
    }

    /** One pilgrim; also what becomes of one in days that are only tried. */
    private static final class Pilgrim {
        private int ill;
        private int trusts;
        private int bathed;

        void startWith(int illness, int trusted) {
            ill = illness;
            trusts = trusted;
            bathed = 0;
        }

        void become(Pilgrim other) {
            ill = other.ill;
            trusts = other.trusts;
            bathed = other.bathed;
        }

        void takeWater(boolean heals, int power) {
            ill = heals ? Math.max(0, ill - power) : Math.min(MOST_ILL, ill + power / 2);
        }

        void takeBath(boolean heals, int power) {
            takeWater(heals, power);
            bathed = Math.min(MOST_BATHED, bathed + 1);
        }

        /** A day goes that is holy by a set of calendars. */
        void passDay(int holy, int truth, int power) {
            if (ill > 0 && (trusts == EVERY_DAY || isIn(holy, trusts))) {
                takeBath(isIn(holy, truth), power);
            }
        }
    }

    /** All that an image keeps: the day, the laws, the calendars, the pilgrims and the jugs. */
    private static final class Spring {
        private int day;
        private int power = FIRST_POWER;
        private int truth;
        private int good;
        private int bad;
        private int calendarCount;
        private int pilgrimCount;
        private final Calendar[] calendars = new Calendar[MOST_CALENDARS];
        private final Pilgrim[] pilgrims = new Pilgrim[MOST_PILGRIMS];

        Spring() {
            for (int c = 0; c < calendars.length; c++) {
                calendars[c] = new Calendar();
            }
            for (int p = 0; p < pilgrims.length; p++) {
                pilgrims[p] = new Pilgrim();
            }
        }

        void become(Spring other) {
            day = other.day;
            power = other.power;
            truth = other.truth;
            good = other.good;
            bad = other.bad;
            calendarCount = other.calendarCount;
            pilgrimCount = other.pilgrimCount;
            for (int c = 0; c < calendars.length; c++) {
                calendars[c].become(other.calendars[c]);
            }
            for (int p = 0; p < pilgrims.length; p++) {
                pilgrims[p].become(other.pilgrims[p]);
            }
        }

        Calendar calendarAt(int number) {
            boolean isThere = number >= 0 && number < calendarCount && number < calendars.length;
            return isThere ? calendars[number] : null;
        }

        Pilgrim pilgrimAt(int number) {
            boolean isThere = number >= 0 && number < pilgrimCount && number < pilgrims.length;
            return isThere ? pilgrims[number] : null;
        }

        boolean hasBoth(int calendar, int other) {
            return calendar != other && calendarAt(calendar) != null && calendarAt(other) != null;
        }

        boolean canTrust(int number) {
            return number == EVERY_DAY || calendarAt(number) != null;
        }

        void addCalendar(int kind) {
            if (calendarCount < calendars.length) {
                calendars[calendarCount].startAs(kind);
                calendarCount++;
            }
        }

        void addPilgrim(int ill, int trusts) {
            if (pilgrimCount < pilgrims.length) {
                pilgrims[pilgrimCount].startWith(ill, trusts);
                pilgrimCount++;
            }
        }

        boolean isHolyBy(int number, int d) {
            Calendar one = calendarAt(number);
            return one != null && one.isHoly(d);
        }

        int holySet(int d) {
            int set = 0;
            for (int c = 0; c < calendarCount && c < calendars.length; c++) {
                if (calendars[c].isHoly(d)) {
                    set |= 1 << c;
                }
            }
            return set;
        }

        boolean takeJug(boolean isGood) {
            if (isGood && good > 0) {
                good--;
                return true;
            }
            if (!isGood && bad > 0) {
                bad--;
                return true;
            }
            return false;
        }

        void passDay() {
            int holy = holySet(day);
            for (int p = 0; p < pilgrimCount && p < pilgrims.length; p++) {
                pilgrims[p].passDay(holy, truth, power);
            }
            if (day % WEEK == JUG_DAY) {
                drawJug(isIn(holy, truth));
            }
            day++;
        }

        private void drawJug(boolean isGood) {
            if (isGood) {
                good = Math.min(MOST_JUGS, good + 1);
            } else {
                bad = Math.min(MOST_JUGS, bad + 1);
            }
        }

        int wellSet() {
            int set = 0;
            for (int p = 0; p < pilgrimCount && p < pilgrims.length; p++) {
                if (pilgrims[p].ill == 0) {
                    set |= 1 << p;
                }
            }
            return set;
        }

        int illOfAll() {
            int all = 0;
            for (int p = 0; p < pilgrimCount && p < pilgrims.length; p++) {
                all += pilgrims[p].ill;
            }
            return all;
        }

        int bathedOfAll() {
            int all = 0;
            for (int p = 0; p < pilgrimCount && p < pilgrims.length; p++) {
                all += pilgrims[p].bathed;
            }
            return all;
        }
    }

    /** The tape, and the reading of it as the text of a spring. */
    private static final class SpringText {
        private static final int END = 0;
        private static final int WORD = 1;
        private static final int NUMBER = 2;
        private static final int SIGN = 3;
        private static final int OTHER = 4;
        private static final int MOST_NUMBER = 9999;

        private final byte[] tape = new byte[MOST_BYTES];
        private int length;

        // What the text makes of the spring is tried here first, as a fault must leave that unchanged.
        private final Spring told = new Spring();

        private int token;
        private int start;
        private int end;
        private int number;

        void add(byte b) {
            if (length < tape.length) {
                tape[length] = b;
                length++;
            }
        }

        /** How many items it tells of, or -1 less the place of the fault. */
        int tell(Spring from) {
            told.become(from);
            end = 0;
            for (int items = 1; items <= MOST_BYTES; items++) {
                readToken();
                if (!tellItem()) {
                    return -1 - start;
                }
                if (token == END) {
                    return items;
                }
                if (token != SIGN) {
                    return -1 - start;
                }
            }
            return -1 - length;
        }

        // Each of these leaves the token behind its part, or answers false with the token at fault.

        private boolean tellItem() {
            if (isWord("pilgrim")) {
                return tellPilgrim();
            }
            if (isWord("truth")) {
                return tellTruth();
            }
            if (isWord("power")) {
                return tellPower();
            }
            return tellCalendar();
        }

        private boolean tellTruth() {
            readToken();
            if (!isNumber(0, MOST_TRUTH)) {
                return false;
            }
            told.truth = number;
            readToken();
            return true;
        }

        private boolean tellPower() {
            readToken();
            if (!isNumber(LEAST_POWER, MOST_POWER)) {
                return false;
            }
            told.power = number;
            readToken();
            return true;
        }

        private boolean tellCalendar() {
            int kind = kindNamed();
            if (kind < 0 || told.calendarCount >= MOST_CALENDARS) {
                return false;
            }
            told.addCalendar(kind);
            readToken();
            return tellField("begin", Calendar.BEGIN)
                && tellField("length", Calendar.LENGTH)
                && tellField("left", Calendar.LEFT)
                && tellField("reform", Calendar.REFORM);
        }

        private boolean tellField(String name, int what) {
            Calendar latest = told.calendarAt(told.calendarCount - 1);
            if (latest == null || !isWord(name)) {
                return true;
            }
            readToken();
            if (token != NUMBER || !Calendar.allows(what, number)) {
                return false;
            }
            latest.change(what, number);
            readToken();
            return true;
        }

        private boolean tellPilgrim() {
            if (told.pilgrimCount >= MOST_PILGRIMS) {
                return false;
            }
            readToken();
            if (!isNumber(0, MOST_ILL)) {
                return false;
            }
            int ill = number;
            int trusts = EVERY_DAY;
            readToken();
            if (isWord("trusts")) {
                readToken();
                if (!isNumber(0, told.calendarCount - 1)) {
                    return false;
                }
                trusts = number;
                readToken();
            }
            told.addPilgrim(ill, trusts);
            return true;
        }

        private boolean isNumber(int least, int most) {
            return token == NUMBER && within(number, least, most);
        }

        private int kindNamed() {
            for (int kind = Calendar.COUNT; kind <= Calendar.MONK; kind++) {
                if (isWord(nameOf(kind))) {
                    return kind;
                }
            }
            return -1;
        }

        private static String nameOf(int kind) {
            switch (kind) {
                case Calendar.COUNT:
                    return "count";
                case Calendar.OLD:
                    return "old";
                case Calendar.NEW:
                    return "new";
                case Calendar.COG:
                    return "cog";
                case Calendar.LEAP:
                    return "leap";
                default:
                    return "monk";
            }
        }

        private boolean isWord(String word) {
            if (token != WORD || end - start != word.length()) {
                return false;
            }
            for (int i = 0; i < word.length(); i++) {
                if (byteAt(start + i) != word.charAt(i)) {
                    return false;
                }
            }
            return true;
        }

        private void readToken() {
            start = end;
            while (start < length && byteAt(start) == ' ') {
                start++;
            }
            end = start;
            if (start >= length) {
                token = END;
            } else if (isLetter(byteAt(start))) {
                token = WORD;
                while (end < length && isLetter(byteAt(end))) {
                    end++;
                }
            } else if (isDigit(byteAt(start))) {
                token = NUMBER;
                number = 0;
                while (end < length && isDigit(byteAt(end))) {
                    // Held just above the most, so that a long row of digits can't wrap around.
                    number = Math.min(MOST_NUMBER + 1, number * 10 + byteAt(end) - '0');
                    end++;
                }
            } else {
                token = byteAt(start) == ';' ? SIGN : OTHER;
                end = start + 1;
            }
        }

        private static boolean isLetter(int b) {
            return b >= 'a' && b <= 'z';
        }

        private static boolean isDigit(int b) {
            return b >= '0' && b <= '9';
        }

        private int byteAt(int place) {
            return place >= 0 && place < length && place < tape.length ? tape[place] : 0;
        }
    }

    /** A row of numbers of 8, 16 or 64 bits; with 0 bits it is missing. */
    private static final class Sheet {
        private int bits;
        private int size;
        private final long[] numbers = new long[MOST_NUMBERS];

        static boolean allows(int bits) {
            return bits == 0 || bits == 8 || bits == 16 || bits == 64;
        }

        void lay(int newBits, int n) {
            bits = newBits;
            size = newBits == 0 ? 0 : Math.max(0, Math.min(MOST_NUMBERS, n));
            for (int i = 0; i < numbers.length; i++) {
                numbers[i] = 0;
            }
        }

        boolean isMissing() {
            return bits == 0;
        }

        boolean hasRange(int from, int n) {
            return from >= 0 && n >= 0 && from <= size && n <= size - from;
        }

        long numberAt(int i) {
            return i >= 0 && i < size ? numbers[i] : 0;
        }

        void put(int i, long v) {
            if (i >= 0 && i < size) {
                numbers[i] = lowest(v);
            }
        }

        private long lowest(long v) {
            if (bits == 8) {
                return (byte) v;
            }
            return bits == 16 ? (short) v : v;
        }
    }
}
