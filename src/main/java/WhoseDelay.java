/**
 * Whose delay a late work was: works by links and calendars, what held them, and who bears it by
 * a contract. The numbered promises of the document say what each call answers.
 */
public final class WhoseDelay {
    private static final int LOW = -1000000;
    private static final int BEYOND = LOW - 1;
    private static final int NONE = LOW - 2;
    private static final int STATE = LOW - 3;
    private static final int FULL = LOW - 4;
    private static final int KIND = LOW - 5;
    private static final int FINDINGS = 5;

    private static final int LAST_DAY = 900;
    private static final int RAIN_DAYS = 900;
    private static final int RAIN_ROWS = 15;
    private static final int MOST_RAIN = 60;
    private static final int FIRST_WEEK = 31;
    private static final int FULL_WEEK = 127;

    private static final int MOST_WORKS = 16;
    private static final int MOST_LONG = 40;
    private static final int MOST_LINKS = 30;
    private static final int MOST_LAG = 20;
    private static final int MOST_EVENTS = 20;
    private static final int MOST_MORE = 30;
    private static final int MOST_FLOAT = 99;

    private static final int KINDS = 6;
    private static final int WORK = 0;
    private static final int DIGGING = 1;
    private static final int BUILDING = 2;
    private static final int PAPER = 4;
    private static final int CURING = 5;
    private static final int[] ABOVE = {-1, WORK, WORK, BUILDING, WORK, BUILDING};

    private static final int CAUSES = 4;
    private static final int OWNER = 0;
    private static final int BUILDER = 1;

    private static final int SHORTEST_WINDOW = 5;
    private static final int LONGEST_WINDOW = 100;
    private static final int WINDOWS = 180;

    private static final int MOST_BYTES = 60;
    private static final int MOST_CLAUSES = 10;
    private static final int MOST_OPEN = 5;
    private static final int MOST_DIGITS = 4;
    private static final int NAMES = 6;
    private static final int NO_NOTICE = 999;
    private static final int RISK = 0;
    private static final int PRICE = 1;
    private static final int TIME = 1;
    private static final int TIME_AND_PAY = 2;
    private static final int USUAL_PRICE = 100;
    private static final int MOST_PRICE = 9999;

    private static final int MOST_HURRIED = 5;
    private static final int MOST_HURRY = 2;
    private static final int MOST_HURRY_PRICE = 999;
    private static final int MOST_CHOICES = 243;
    private static final int LATEST_DAY = 9999;
    private static final int TOO_LATE = 100;
    private static final int TOO_DEAR = 101;

    private static final int ACTS = 4;
    private static final int HOLD = 0;
    private static final int PUSH = 1;
    private static final int WAIT = 2;
    private static final int TELL = 3;
    private static final int MOST_TRACE = 40;
    private static final int MOST_DEPTH = 40;
    /** The BODY of each KIND (a row) for each act (a column); 0 where the KIND has none. */
    private static final int[] BODIES = {
        10, 11, 12, 13,
        0, 20, 0, 0,
        30, 0, 0, 31,
        41, 0, 40, 0,
        0, 0, 0, 50,
        0, 61, 60, 0,
    };

    private static final int SHEETS = 4;
    private static final int MOST_NUMBERS = 24;

    private final Site site = new Site();
    private final Site kept = new Site();
    private final Plan plan = new Plan();
    private final Reader reader = new Reader();
    private final Voices voices = new Voices();
    private final Sheet[] sheets = new Sheet[SHEETS];
    private final int[] findings = new int[FINDINGS + 1];
    private final int[] tried = new int[MOST_HURRIED];
    private final int[] chosen = new int[MOST_HURRIED];
    private int images = 0;

    public WhoseDelay() {
        for (int i = 0; i < SHEETS; i++) {
            sheets[i] = new Sheet();
        }
    }

    // ---- works

    public int work(int kind, int days) {
        if (!isKind(kind) || !within(days, 1, MOST_LONG)) {
            return finding(BEYOND);
        }
        if (site.works.count >= MOST_WORKS) {
            return finding(FULL);
        }
        return site.works.add(kind, days);
    }

    public int as(int work, int kind) {
        Works works = site.works;
        if (!works.has(work) || !isKind(kind)) {
            return finding(BEYOND);
        }
        if (!isUnder(works.kind[work], kind)) {
            return finding(KIND);
        }
        return works.length[work];
    }

    public int edit(int work, int days) {
        Works works = site.works;
        if (!works.has(work) || !within(days, 1, MOST_LONG)) {
            return finding(BEYOND);
        }
        if (site.haste.mostOf(work) >= days) {
            return finding(STATE);
        }
        int was = works.length[work];
        works.length[work] = days;
        return was;
    }

    public int link(int from, int to, int lag) {
        Works works = site.works;
        if (!works.has(from) || !works.has(to) || from == to || !within(lag, 0, MOST_LAG)) {
            return finding(BEYOND);
        }
        if (works.linked(from, to) || works.leadsTo(to, from)) {
            return finding(STATE);
        }
        if (works.links >= MOST_LINKS) {
            return finding(FULL);
        }
        return works.join(from, to, lag);
    }

    public int unlink(int from, int to) {
        Works works = site.works;
        if (!works.has(from) || !works.has(to)) {
            return finding(BEYOND);
        }
        if (!works.linked(from, to)) {
            return finding(NONE);
        }
        return works.loosen(from, to);
    }

    public int week(int days) {
        if (!within(days, 1, FULL_WEEK)) {
            return finding(BEYOND);
        }
        return site.days.turnWeek(days);
    }

    public int rain(int day, int n, boolean is) {
        if (!within(n, 1, MOST_RAIN) || !within(day, 0, RAIN_DAYS - n)) {
            return finding(BEYOND);
        }
        return site.days.turnRain(day, n, is);
    }

    public int today(int day) {
        if (!within(day, site.today, LAST_DAY)) {
            return finding(BEYOND);
        }
        int was = site.today;
        site.today = day;
        return was;
    }

    // ---- events, plans

    public int event(int what, int day, int days) {
        boolean known = what >= 0 && site.works.has(what / 10) && isCause(what % 10);
        if (!known || !within(day, 0, site.today) || !within(days, 1, MOST_MORE)) {
            return finding(BEYOND);
        }
        if (site.events.count >= MOST_EVENTS) {
            return finding(FULL);
        }
        return site.events.add(what, day, days, site.today);
    }

    public int notice(int event, int day) {
        Events events = site.events;
        if (!events.has(event) || !within(day, events.day[event], site.today)) {
            return finding(BEYOND);
        }
        if (events.notice[event] >= 0) {
            return finding(STATE);
        }
        events.notice[event] = day;
        return 1;
    }

    public int back(int event) {
        Events events = site.events;
        if (!events.has(event)) {
            return finding(BEYOND);
        }
        if (events.back[event] >= 0 || events.told[event] == site.today) {
            return finding(STATE);
        }
        events.back[event] = site.today;
        return 1;
    }

    public int of(int event, int what) {
        Events events = site.events;
        if (!events.has(event)) {
            return finding(BEYOND);
        }
        switch (what) {
            case 0: return events.work[event];
            case 1: return events.cause[event];
            case 2: return events.day[event];
            case 3: return events.more[event];
            case 4: return events.notice[event];
            case 5: return events.told[event];
            case 6: return events.back[event];
            default: return finding(BEYOND);
        }
    }

    public int known(int k) {
        return isDay(k) ? site.events.knownOn(k) : finding(BEYOND);
    }

    public int plan(int set, int work, int what) {
        if (!site.events.hold(set) || !site.works.has(work) || !within(what, 0, 2)) {
            return finding(BEYOND);
        }
        if (what == 2) {
            return floatOf(work, set);
        }
        endOf(set);
        return what == 0 ? plan.ready[work] : plan.ends[work];
    }

    public int end(int set) {
        return site.events.hold(set) ? endOf(set) : finding(BEYOND);
    }

    public int chain(int set, int i) {
        if (!site.events.hold(set) || i < 0) {
            return finding(BEYOND);
        }
        endOf(set);
        int work = plan.lastWork(site.works);
        for (int place = 0; place < MOST_WORKS && place < i && work >= 0; place++) {
            work = plan.rulerOf(work, site.works);
        }
        return work >= 0 ? work : finding(NONE);
    }

    // ---- whose it was

    public int one(int event, int k) {
        if (!site.events.has(event) || !isDay(k)) {
            return finding(BEYOND);
        }
        int all = site.events.knownOn(k);
        return holds(all, event) ? addedBy(event, all) : finding(NONE);
    }

    public int without(int event, int k) {
        if (!site.events.has(event) || !isDay(k)) {
            return finding(BEYOND);
        }
        int all = site.events.knownOn(k);
        return holds(all, event) ? lostBy(all, 1 << event) : finding(NONE);
    }

    public int butFor(int cause, int k) {
        if (!isCause(cause) || !isDay(k)) {
            return finding(BEYOND);
        }
        int all = site.events.knownOn(k);
        return lostBy(all, site.events.ofCause(all, cause));
    }

    public int window(int n, int w, int cause, int k) {
        boolean stands = within(n, SHORTEST_WINDOW, LONGEST_WINDOW) && within(w, 0, WINDOWS - 1);
        if (!stands || !within(cause, -1, CAUSES - 1) || !isDay(k)) {
            return finding(BEYOND);
        }
        int all = site.events.knownOn(k);
        int upTo = site.events.upTo(all, w * n + n - 1);
        int inside = upTo & ~site.events.upTo(all, w * n - 1);
        int lost = lostBy(upTo, inside);
        return cause < 0 ? lost : partOf(cause, lost, inside);
    }

    // ---- the contract

    public int feed(long word, int n) {
        if (!within(n, 1, 8)) {
            return finding(BEYOND);
        }
        if (site.contract.fed + n > MOST_BYTES) {
            return finding(FULL);
        }
        return site.contract.take(word, n);
    }

    public int clause(int use, int from) {
        Contract contract = site.contract;
        if (!isUse(use) || !isDay(from)) {
            return finding(BEYOND);
        }
        if (contract.count >= MOST_CLAUSES) {
            return finding(FULL);
        }
        reader.read(contract.tape, 0, contract.fed);
        int fault = reader.fault();
        if (fault >= 0) {
            contract.fed = 0;
            return -10 - fault;
        }
        return contract.add(use, from);
    }

    public int says(int use, int event) {
        if (!isUse(use) || !site.events.has(event)) {
            return finding(BEYOND);
        }
        return use == RISK ? riskOf(event) : priceOf(event);
    }

    public int force(int use, int event) {
        if (!isUse(use) || !site.events.has(event)) {
            return finding(BEYOND);
        }
        int clause = site.contract.inForce(use, site.events.day[event]);
        return clause >= 0 ? clause : finding(NONE);
    }

    public int claim(int what) {
        switch (what) {
            case 0: return endOf(bearing(TIME)) - endOf(0);
            case 1: return endOf(bearing(TIME));
            case 2: return paidFor(bearing(TIME_AND_PAY));
            case 3: return endOf(knownToday()) - endOf(bearing(TIME));
            case 4: return bearing(TIME);
            case 5: return twoAtOnce();
            default: return finding(BEYOND);
        }
    }

    // ---- hurry

    public int hurry(int work, int most, int price) {
        boolean priced = within(most, 1, MOST_HURRY) && within(price, 1, MOST_HURRY_PRICE);
        if (!site.works.has(work) || !priced) {
            return finding(BEYOND);
        }
        if (site.works.kind[work] == CURING) {
            return finding(KIND);
        }
        if (site.haste.mostOf(work) > 0 || site.works.length[work] <= most) {
            return finding(STATE);
        }
        if (site.haste.count >= MOST_HURRIED) {
            return finding(FULL);
        }
        return site.haste.add(work, most, price);
    }

    public int calm() {
        int could = site.haste.count;
        site.haste.count = 0;
        return could;
    }

    public int least(int day, int what) {
        if (!within(day, 0, LATEST_DAY) || !within(what, -1, site.haste.count - 1)) {
            return finding(BEYOND);
        }
        int sum = cheapest(day);
        if (sum < 0) {
            return finding(NONE);
        }
        return what < 0 ? sum : chosen[what];
    }

    public int proves(int sheet, int day, int v) {
        if (!isSheet(sheet) || !within(day, 0, LATEST_DAY) || v < 0) {
            return finding(BEYOND);
        }
        Sheet row = sheets[sheet];
        if (row.bits == 0) {
            return finding(NONE);
        }
        int wrong = site.haste.firstWrong(row);
        if (wrong >= 0) {
            return wrong;
        }
        if (endHurried(row.numbers, knownToday()) > day) {
            return TOO_LATE;
        }
        return site.haste.sumOf(row.numbers) > v ? TOO_DEAR : -1;
    }

    // ---- voices, sheets, images

    public int voice(int work, int act, int x) {
        if (!site.works.has(work) || !within(act, 0, ACTS - 1)) {
            return finding(BEYOND);
        }
        return voices.begin(site.works.kind[work], work, site.works.first[work], act, x);
    }

    public int trace(int i) {
        return within(i, 0, voices.count - 1) ? voices.bodies[i] : finding(NONE);
    }

    public int sheet(int sheet, int bits, int n) {
        if (!isSheet(sheet) || bits != 0 && bits != 8 && bits != 16 && bits != 32) {
            return finding(BEYOND);
        }
        if (bits != 0 && n < 0) {
            return finding(STATE);
        }
        if (bits != 0 && n > MOST_NUMBERS) {
            return finding(BEYOND);
        }
        sheets[sheet].renew(bits, bits == 0 ? 0 : n);
        return 1;
    }

    public int put(int sheet, int i, int v) {
        if (!isSheet(sheet)) {
            return finding(BEYOND);
        }
        Sheet row = sheets[sheet];
        if (row.bits == 0) {
            return finding(NONE);
        }
        if (!within(i, 0, row.size - 1)) {
            return finding(BEYOND);
        }
        row.numbers[i] = row.cut(v);
        return 1;
    }

    public int move(int sheet, int i, int other, int j, int n) {
        if (!isSheet(sheet) || !isSheet(other)) {
            return finding(BEYOND);
        }
        Sheet from = sheets[sheet];
        Sheet to = sheets[other];
        if (from.bits == 0 || to.bits == 0) {
            return finding(NONE);
        }
        if (from.bits != to.bits) {
            return finding(KIND);
        }
        if (n < 0 || !within(i, 0, from.size - n) || !within(j, 0, to.size - n)) {
            return finding(BEYOND);
        }
        System.arraycopy(from.numbers, i, to.numbers, j, n);
        return n;
    }

    public int image() {
        kept.copy(site);
        images++;
        return images;
    }

    public int restore() {
        if (images == 0) {
            return finding(NONE);
        }
        site.copy(kept);
        return site.today;
    }

    public int told(int what) {
        switch (what) {
            case 0: return site.works.count;
            case 1: return site.works.links;
            case 2: return site.events.count;
            case 3: return Integer.bitCount(knownToday());
            case 4: return site.contract.count;
            case 5: return site.today;
            case 6: return site.days.rainy;
            case 7: return site.contract.fed;
            case 8: return site.haste.count;
            case 9: return voices.count;
            default: return finding(BEYOND);
        }
    }

    public int found(int k) {
        return within(k, 1, FINDINGS) ? findings[k] : finding(BEYOND);
    }

    // ---- what the calls share

    private int finding(int answer) {
        int k = LOW - answer;
        if (within(k, 1, FINDINGS)) {
            findings[k]++;
        }
        return answer;
    }

    private static boolean within(int x, int least, int most) {
        return x >= least && x <= most;
    }

    private static boolean isDay(int k) {
        return within(k, 0, LAST_DAY);
    }

    private static boolean isKind(int kind) {
        return within(kind, 0, KINDS - 1);
    }

    private static boolean isCause(int cause) {
        return within(cause, 0, CAUSES - 1);
    }

    private static boolean isUse(int use) {
        return use == RISK || use == PRICE;
    }

    private static boolean isSheet(int sheet) {
        return within(sheet, 0, SHEETS - 1);
    }

    private static boolean isUnder(int kind, int above) {
        int at = kind;
        for (int i = 0; i < KINDS && isKind(at); i++) {
            if (at == above) {
                return true;
            }
            at = ABOVE[at];
        }
        return false;
    }

    private static boolean holds(int set, int i) {
        return (set >> i & 1) != 0;
    }

    private int knownToday() {
        return site.events.knownOn(site.today);
    }

    private int endOf(int set) {
        plan.load(site, set);
        return plan.run(site);
    }

    /** The END never falls as a WORK grows, so the days it could grow by are found by halving. */
    private int floatOf(int work, int set) {
        plan.load(site, set);
        int need = plan.needs[work];
        int end = plan.run(site);
        int low = 0;
        int high = MOST_FLOAT;
        for (int i = 0; i <= MOST_FLOAT && low < high; i++) {
            int middle = (low + high + 1) / 2;
            plan.needs[work] = need + middle;
            if (plan.run(site) == end) {
                low = middle;
            } else {
                high = middle - 1;
            }
        }
        return low;
    }

    private int lostBy(int all, int part) {
        return endOf(all) - endOf(all & ~part);
    }

    private int addedBy(int event, int all) {
        int ahead = site.events.aheadOf(event, all);
        return lostBy(ahead | 1 << event, 1 << event);
    }

    private int partOf(int cause, int lost, int inside) {
        Events events = site.events;
        int all = events.daysTogether(inside);
        if (all <= 0) {
            return 0;
        }
        int mine = lost * events.daysTogether(events.ofCause(inside, cause));
        int left = lost;
        int ahead = 0;
        for (int c = 0; c < CAUSES; c++) {
            int its = lost * events.daysTogether(events.ofCause(inside, c));
            left -= its / all;
            boolean earlier = its % all == mine % all && c < cause;
            if (its % all > mine % all || earlier) {
                ahead++;
            }
        }
        return mine / all + (ahead < left ? 1 : 0);
    }

    // ---- what the contract says

    private int riskOf(int event) {
        int clause = site.contract.inForce(RISK, site.events.day[event]);
        if (clause >= 0) {
            return Math.max(0, Math.min(TIME_AND_PAY, valueOf(clause, event)));
        }
        int cause = site.events.cause[event];
        if (cause == OWNER) {
            return TIME_AND_PAY;
        }
        return cause == BUILDER ? 0 : TIME;
    }

    private int priceOf(int event) {
        int clause = site.contract.inForce(PRICE, site.events.day[event]);
        if (clause < 0) {
            return USUAL_PRICE;
        }
        return Math.max(0, Math.min(MOST_PRICE, valueOf(clause, event)));
    }

    private int valueOf(int clause, int event) {
        Events events = site.events;
        int work = events.work[event];
        reader.names[0] = events.cause[event];
        reader.names[1] = events.more[event];
        reader.names[2] = site.works.kind[work];
        reader.names[3] = events.noticeAfter(event);
        reader.names[4] = events.meetsOther(event, knownToday()) ? 1 : 0;
        // The FLOAT is dear to find, so it is found only for a text that has its name.
        reader.names[5] = site.contract.mentions(clause, 'f') ? floatOf(work, 0) : 0;
        return reader.read(site.contract.texts, clause * MOST_BYTES, site.contract.size[clause]);
    }

    private int bearing(int risk) {
        int known = knownToday();
        int set = 0;
        for (int e = 0; e < site.events.count; e++) {
            if (holds(known, e) && riskOf(e) >= risk) {
                set |= 1 << e;
            }
        }
        return set;
    }

    private int paidFor(int set) {
        int sum = 0;
        for (int e = 0; e < site.events.count; e++) {
            if (holds(set, e)) {
                sum += addedBy(e, set) * priceOf(e);
            }
        }
        return sum;
    }

    private int twoAtOnce() {
        int known = knownToday();
        int set = 0;
        for (int e = 0; e < site.events.count; e++) {
            if (holds(known, e) && site.events.meetsOther(e, known)) {
                set |= 1 << e;
            }
        }
        return set;
    }

    // ---- the least price

    private int endHurried(int[] less, int set) {
        plan.load(site, set);
        for (int i = 0; i < site.haste.count; i++) {
            plan.needs[site.haste.work[i]] -= less[i];
        }
        return plan.run(site);
    }

    /** Goes through the choices with the first WORK's days growing slowest: of equals the first stays. */
    private int cheapest(int day) {
        int known = knownToday();
        int best = -1;
        boolean more = true;
        for (int i = 0; i < MOST_HURRIED; i++) {
            tried[i] = 0;
        }
        for (int i = 0; i < MOST_CHOICES && more; i++) {
            int sum = site.haste.sumOf(tried);
            if ((best < 0 || sum < best) && endHurried(tried, known) <= day) {
                best = sum;
                System.arraycopy(tried, 0, chosen, 0, MOST_HURRIED);
            }
            more = site.haste.next(tried);
        }
        return best;
    }

    /** All that an IMAGE keeps. */
    private static final class Site {
        final Days days = new Days();
        final Works works = new Works();
        final Events events = new Events();
        final Contract contract = new Contract();
        final Haste haste = new Haste();
        int today = 0;

        void copy(Site other) {
            days.copy(other.days);
            works.copy(other.works);
            events.copy(other.events);
            contract.copy(other.contract);
            haste.copy(other.haste);
            today = other.today;
        }
    }

    /** THE WEEK and the RAIN. */
    private static final class Days {
        /** The days of RAIN as bits, 64 to a row. */
        final long[] wet = new long[RAIN_ROWS];
        /** How many WORKING days without RAIN are ahead of each day. */
        final int[] dry = new int[RAIN_DAYS + 1];
        int rainy = 0;
        int weekDays = FIRST_WEEK;
        int perWeek = Integer.bitCount(FIRST_WEEK);

        Days() {
            countDry(0);
        }

        void copy(Days other) {
            System.arraycopy(other.wet, 0, wet, 0, RAIN_ROWS);
            System.arraycopy(other.dry, 0, dry, 0, RAIN_DAYS + 1);
            rainy = other.rainy;
            weekDays = other.weekDays;
            perWeek = other.perWeek;
        }

        int turnWeek(int set) {
            int was = weekDays;
            weekDays = set;
            perWeek = Math.max(1, Integer.bitCount(set));
            countDry(0);
            return was;
        }

        int turnRain(int day, int n, boolean is) {
            int turned = 0;
            for (int d = day; d < day + n; d++) {
                if (isWet(d) != is) {
                    wet[d >> 6] ^= 1L << (d & 63);
                    turned++;
                }
            }
            rainy += is ? turned : -turned;
            countDry(day);
            return turned;
        }

        int endOf(int kind, int ready, int need) {
            if (need <= 0) {
                return ready;
            }
            if (kind == PAPER || kind == CURING) {
                return ready + need;
            }
            if (kind != DIGGING || ready >= RAIN_DAYS) {
                return byWeek(ready, need);
            }
            int goal = dry[ready] + need;
            if (goal > dry[RAIN_DAYS]) {
                return byWeek(RAIN_DAYS, goal - dry[RAIN_DAYS]);
            }
            return firstWith(goal, ready);
        }

        private boolean isWet(int day) {
            return (wet[day >> 6] >>> (day & 63) & 1) != 0;
        }

        private void countDry(int from) {
            for (int d = from; d < RAIN_DAYS; d++) {
                dry[d + 1] = dry[d] + (holds(weekDays, d % 7) && !isWet(d) ? 1 : 0);
            }
        }

        /** All whole weeks but the last begun one at once, then day by day. */
        private int byWeek(int ready, int need) {
            int weeks = (need - 1) / perWeek;
            int left = need - weeks * perWeek;
            int day = ready + 7 * weeks;
            for (int i = 0; i < 7 && left > 0; i++) {
                left -= weekDays >> day % 7 & 1;
                day++;
            }
            return day;
        }

        private int firstWith(int goal, int ready) {
            int low = ready + 1;
            int high = RAIN_DAYS;
            for (int i = 0; i < RAIN_DAYS && low < high; i++) {
                int middle = (low + high) / 2;
                if (dry[middle] >= goal) {
                    high = middle;
                } else {
                    low = middle + 1;
                }
            }
            return high;
        }
    }

    /** WORKS and the LINKS between them. */
    private static final class Works {
        final int[] kind = new int[MOST_WORKS];
        final int[] length = new int[MOST_WORKS];
        /** How LONG each was told first. */
        final int[] first = new int[MOST_WORKS];
        /** Those with a LINK to each, as bits. */
        final int[] before = new int[MOST_WORKS];
        /** The LAG of a LINK, at 16 times where it comes from and where it goes. */
        final int[] lags = new int[MOST_WORKS * MOST_WORKS];
        /** All WORKS, none ahead of one that has a LINK to it. */
        final int[] order = new int[MOST_WORKS];
        int count = 0;
        int links = 0;

        void copy(Works other) {
            System.arraycopy(other.kind, 0, kind, 0, MOST_WORKS);
            System.arraycopy(other.length, 0, length, 0, MOST_WORKS);
            System.arraycopy(other.first, 0, first, 0, MOST_WORKS);
            System.arraycopy(other.before, 0, before, 0, MOST_WORKS);
            System.arraycopy(other.lags, 0, lags, 0, MOST_WORKS * MOST_WORKS);
            System.arraycopy(other.order, 0, order, 0, MOST_WORKS);
            count = other.count;
            links = other.links;
        }

        boolean has(int work) {
            return work >= 0 && work < count;
        }

        int add(int itsKind, int days) {
            kind[count] = itsKind;
            length[count] = days;
            first[count] = days;
            before[count] = 0;
            order[count] = count;
            count++;
            return count - 1;
        }

        boolean linked(int from, int to) {
            return holds(before[to], from);
        }

        /** Whether one is the other, or a way of LINKS goes from it to the other. */
        boolean leadsTo(int from, int to) {
            int set = 1 << to;
            for (int i = 0; i < count; i++) {
                int wider = set;
                for (int w = 0; w < count; w++) {
                    wider |= holds(set, w) ? before[w] : 0;
                }
                set = wider;
            }
            return holds(set, from);
        }

        int join(int from, int to, int lag) {
            before[to] |= 1 << from;
            lags[from * MOST_WORKS + to] = lag;
            links++;
            arrange();
            return links;
        }

        /** The order stays: with a LINK less it holds as well. */
        int loosen(int from, int to) {
            before[to] &= ~(1 << from);
            links--;
            return lags[from * MOST_WORKS + to];
        }

        int readyBy(int work, int[] ends) {
            int ready = 0;
            int left = before[work];
            for (int from = 0; from < count && left != 0; from++) {
                if ((left & 1) != 0) {
                    ready = Math.max(ready, ends[from] + lags[from * MOST_WORKS + work]);
                }
                left >>= 1;
            }
            return ready;
        }

        private void arrange() {
            int done = 0;
            for (int place = 0; place < count; place++) {
                int next = nextAfter(done);
                order[place] = next;
                done |= 1 << next;
            }
        }

        /** There is always one, as LINKS make no ring. */
        private int nextAfter(int done) {
            for (int w = 0; w < count; w++) {
                if (!holds(done, w) && (before[w] & ~done) == 0) {
                    return w;
                }
            }
            return 0;
        }
    }

    /** EVENTS, as told and as taken back. */
    private static final class Events {
        final int[] work = new int[MOST_EVENTS];
        final int[] cause = new int[MOST_EVENTS];
        final int[] day = new int[MOST_EVENTS];
        final int[] more = new int[MOST_EVENTS];
        final int[] notice = new int[MOST_EVENTS];
        final int[] told = new int[MOST_EVENTS];
        final int[] back = new int[MOST_EVENTS];
        int count = 0;

        void copy(Events other) {
            System.arraycopy(other.work, 0, work, 0, MOST_EVENTS);
            System.arraycopy(other.cause, 0, cause, 0, MOST_EVENTS);
            System.arraycopy(other.day, 0, day, 0, MOST_EVENTS);
            System.arraycopy(other.more, 0, more, 0, MOST_EVENTS);
            System.arraycopy(other.notice, 0, notice, 0, MOST_EVENTS);
            System.arraycopy(other.told, 0, told, 0, MOST_EVENTS);
            System.arraycopy(other.back, 0, back, 0, MOST_EVENTS);
            count = other.count;
        }

        boolean has(int event) {
            return event >= 0 && event < count;
        }

        boolean hold(int set) {
            return set >= 0 && set >> count == 0;
        }

        int add(int what, int itsDay, int days, int today) {
            work[count] = what / 10;
            cause[count] = what % 10;
            day[count] = itsDay;
            more[count] = days;
            notice[count] = -1;
            told[count] = today;
            back[count] = -1;
            count++;
            return count - 1;
        }

        int knownOn(int k) {
            int set = 0;
            for (int e = 0; e < count; e++) {
                if (told[e] <= k && (back[e] < 0 || back[e] > k)) {
                    set |= 1 << e;
                }
            }
            return set;
        }

        int ofCause(int set, int which) {
            int part = 0;
            for (int e = 0; e < count; e++) {
                if (holds(set, e) && cause[e] == which) {
                    part |= 1 << e;
                }
            }
            return part;
        }

        int upTo(int set, int last) {
            int part = 0;
            for (int e = 0; e < count; e++) {
                if (holds(set, e) && day[e] <= last) {
                    part |= 1 << e;
                }
            }
            return part;
        }

        /** Those of a set that are ahead of an EVENT IN ORDER. */
        int aheadOf(int event, int set) {
            int part = 0;
            for (int e = 0; e < count; e++) {
                boolean earlier = day[e] < day[event] || day[e] == day[event] && e < event;
                if (holds(set, e) && earlier) {
                    part |= 1 << e;
                }
            }
            return part;
        }

        int daysTogether(int set) {
            int sum = 0;
            for (int e = 0; e < count; e++) {
                sum += holds(set, e) ? more[e] : 0;
            }
            return sum;
        }

        int noticeAfter(int event) {
            return notice[event] < 0 ? NO_NOTICE : notice[event] - day[event];
        }

        /** Whether a day of an EVENT is also one of another of the set, of another CAUSE. */
        boolean meetsOther(int event, int set) {
            for (int e = 0; e < count; e++) {
                boolean meets = day[e] < day[event] + more[event] && day[event] < day[e] + more[e];
                if (holds(set, e) && cause[e] != cause[event] && meets) {
                    return true;
                }
            }
            return false;
        }
    }

    /** READY and END of all WORKS, worked out anew for each question. */
    private static final class Plan {
        final int[] needs = new int[MOST_WORKS];
        final int[] ready = new int[MOST_WORKS];
        final int[] ends = new int[MOST_WORKS];

        void load(Site site, int set) {
            Works works = site.works;
            Events events = site.events;
            System.arraycopy(works.length, 0, needs, 0, MOST_WORKS);
            for (int e = 0; e < events.count; e++) {
                if (holds(set, e)) {
                    needs[events.work[e]] += events.more[e];
                }
            }
        }

        int run(Site site) {
            Works works = site.works;
            int last = 0;
            for (int i = 0; i < works.count; i++) {
                int work = works.order[i];
                ready[work] = works.readyBy(work, ends);
                ends[work] = site.days.endOf(works.kind[work], ready[work], needs[work]);
                last = Math.max(last, ends[work]);
            }
            return last;
        }

        int lastWork(Works works) {
            int last = works.count > 0 ? 0 : -1;
            for (int w = 1; w < works.count; w++) {
                if (ends[w] > ends[last]) {
                    last = w;
                }
            }
            return last;
        }

        /** The WORK whose END and LAG make another one READY, or -1. */
        int rulerOf(int work, Works works) {
            for (int from = 0; from < works.count; from++) {
                boolean rules = ends[from] + works.lags[from * MOST_WORKS + work] == ready[work];
                if (works.linked(from, work) && rules) {
                    return from;
                }
            }
            return -1;
        }
    }

    /** THE TAPE and the CLAUSES. */
    private static final class Contract {
        final byte[] tape = new byte[MOST_BYTES];
        final byte[] texts = new byte[MOST_CLAUSES * MOST_BYTES];
        final int[] size = new int[MOST_CLAUSES];
        final int[] uses = new int[MOST_CLAUSES];
        final int[] from = new int[MOST_CLAUSES];
        int fed = 0;
        int count = 0;

        void copy(Contract other) {
            System.arraycopy(other.tape, 0, tape, 0, MOST_BYTES);
            System.arraycopy(other.texts, 0, texts, 0, MOST_CLAUSES * MOST_BYTES);
            System.arraycopy(other.size, 0, size, 0, MOST_CLAUSES);
            System.arraycopy(other.uses, 0, uses, 0, MOST_CLAUSES);
            System.arraycopy(other.from, 0, from, 0, MOST_CLAUSES);
            fed = other.fed;
            count = other.count;
        }

        int take(long word, int n) {
            for (int i = 0; i < n; i++) {
                tape[fed] = (byte) (word >>> 8 * i);
                fed++;
            }
            return fed;
        }

        int add(int use, int firstDay) {
            System.arraycopy(tape, 0, texts, count * MOST_BYTES, fed);
            size[count] = fed;
            uses[count] = use;
            from[count] = firstDay;
            fed = 0;
            count++;
            return count - 1;
        }

        int inForce(int use, int day) {
            for (int c = count - 1; c >= 0; c--) {
                if (uses[c] == use && from[c] <= day) {
                    return c;
                }
            }
            return -1;
        }

        boolean mentions(int clause, char name) {
            for (int i = 0; i < size[clause]; i++) {
                if (texts[clause * MOST_BYTES + i] == name) {
                    return true;
                }
            }
            return false;
        }
    }

    /** Reads a TEXT and works it out as it goes; once a byte can't be, it goes no further. */
    private static final class Reader {
        /** What c, d, k, n, t, f stand for. */
        final int[] names = new int[NAMES];
        private byte[] bytes = new byte[0];
        private int start = 0;
        private int stop = 0;
        private int at = 0;
        private int open = 0;
        private boolean stuck = false;

        int read(byte[] text, int from, int size) {
            bytes = text;
            start = from;
            stop = from + size;
            at = from;
            open = 0;
            stuck = false;
            int value = either();
            stuck = stuck || at < stop;
            return value;
        }

        /** The FAULT of what was read, or -1. */
        int fault() {
            return stuck ? at - start : -1;
        }

        /** The byte that comes next, or -1. */
        private int next() {
            return !stuck && at >= 0 && at < stop && at < bytes.length ? bytes[at] & 255 : -1;
        }

        private boolean skip(char sign) {
            if (next() != sign) {
                return false;
            }
            at++;
            return true;
        }

        private static int truth(boolean is) {
            return is ? 1 : 0;
        }

        private int either() {
            int value = both();
            for (int i = 0; i < MOST_BYTES && skip('|'); i++) {
                int other = both();
                value = truth(value != 0 || other != 0);
            }
            return value;
        }

        private int both() {
            int value = compared();
            for (int i = 0; i < MOST_BYTES && skip('&'); i++) {
                int other = compared();
                value = truth(value != 0 && other != 0);
            }
            return value;
        }

        private int compared() {
            int value = sum();
            if (skip('<')) {
                return truth(value < sum());
            }
            if (skip('=')) {
                return truth(value == sum());
            }
            if (skip('>')) {
                return truth(value > sum());
            }
            return value;
        }

        private int sum() {
            int value = product();
            for (int i = 0; i < MOST_BYTES; i++) {
                if (skip('+')) {
                    value += product();
                } else if (skip('-')) {
                    value -= product();
                } else {
                    return value;
                }
            }
            return value;
        }

        private int product() {
            int value = single();
            for (int i = 0; i < MOST_BYTES; i++) {
                if (skip('*')) {
                    value *= single();
                } else if (skip('/')) {
                    int divisor = single();
                    value = divisor == 0 ? 0 : value / divisor;
                } else {
                    return value;
                }
            }
            return value;
        }

        private int single() {
            int sign = next();
            if (sign >= '0' && sign <= '9') {
                return number();
            }
            if (sign == '!' || sign == '(') {
                return opened(sign);
            }
            int name = nameOf(sign);
            if (name < 0) {
                stuck = true;
                return 0;
            }
            at++;
            return names[name];
        }

        private int opened(int sign) {
            if (open >= MOST_OPEN) {
                stuck = true;
                return 0;
            }
            open++;
            at++;
            int value = sign == '!' ? truth(single() == 0) : either();
            if (sign == '(' && !skip(')')) {
                stuck = true;
            }
            open--;
            return value;
        }

        private int number() {
            int value = 0;
            for (int i = 0; i < MOST_DIGITS && next() >= '0' && next() <= '9'; i++) {
                value = value * 10 + next() - '0';
                at++;
            }
            return value;
        }

        private static int nameOf(int sign) {
            switch (sign) {
                case 'c': return 0;
                case 'd': return 1;
                case 'k': return 2;
                case 'n': return 3;
                case 't': return 4;
                case 'f': return 5;
                default: return -1;
            }
        }
    }

    /** The WORKS that may be HURRIED, as they were told. */
    private static final class Haste {
        final int[] work = new int[MOST_HURRIED];
        final int[] most = new int[MOST_HURRIED];
        final int[] price = new int[MOST_HURRIED];
        int count = 0;

        void copy(Haste other) {
            System.arraycopy(other.work, 0, work, 0, MOST_HURRIED);
            System.arraycopy(other.most, 0, most, 0, MOST_HURRIED);
            System.arraycopy(other.price, 0, price, 0, MOST_HURRIED);
            count = other.count;
        }

        int add(int which, int days, int each) {
            work[count] = which;
            most[count] = days;
            price[count] = each;
            count++;
            return count;
        }

        /** By how many days a WORK may be HURRIED, 0 if it may not. */
        int mostOf(int which) {
            for (int i = 0; i < count; i++) {
                if (work[i] == which) {
                    return most[i];
                }
            }
            return 0;
        }

        int sumOf(int[] days) {
            int sum = 0;
            for (int i = 0; i < count; i++) {
                sum += days[i] * price[i];
            }
            return sum;
        }

        /** Makes of a choice the next one; false behind the last. */
        boolean next(int[] choice) {
            for (int i = count - 1; i >= 0; i--) {
                if (choice[i] < most[i]) {
                    choice[i]++;
                    return true;
                }
                choice[i] = 0;
            }
            return false;
        }

        /** The first place where a SHEET has no number that can be, or has one too many; or -1. */
        int firstWrong(Sheet row) {
            for (int i = 0; i < count; i++) {
                if (i >= row.size || !within(row.numbers[i], 0, most[i])) {
                    return i;
                }
            }
            return row.size > count ? count : -1;
        }
    }

    /** BODIES of the KINDS, and THE TRACE of the latest VOICE. */
    private static final class Voices {
        final int[] bodies = new int[MOST_TRACE];
        int count = 0;
        private int kind = WORK;
        private int number = 0;
        private int first = 0;

        int begin(int itsKind, int itsNumber, int itsFirst, int act, int x) {
            count = 0;
            kind = itsKind;
            number = itsNumber;
            first = itsFirst;
            return call(kind, act, x, 0);
        }

        /** The BODY of an act from a KIND on upwards. */
        private int call(int from, int act, int x, int depth) {
            int at = from;
            for (int i = 0; i < KINDS && isKind(at); i++) {
                int body = BODIES[at * ACTS + act];
                if (body != 0) {
                    return speak(body, x, depth);
                }
                at = ABOVE[at];
            }
            return 0;
        }

        private int speak(int body, int x, int depth) {
            if (depth >= MOST_DEPTH) {
                return 0;
            }
            if (count < MOST_TRACE) {
                bodies[count] = body;
                count++;
            }
            int next = depth + 1;
            switch (body) {
                case 10: return x + first;
                case 11: return call(kind, HOLD, x, next) * 2;
                case 12: return x - number;
                case 13: return call(kind, PUSH, x, next) ^ call(kind, WAIT, x, next);
                case 20: return call(WORK, PUSH, x, next) - call(kind, WAIT, x, next);
                case 30: return call(WORK, HOLD, x, next) + number;
                case 31: return call(WORK, TELL, x + 1, next);
                case 40: return call(BUILDING, WAIT, x, next) * 3;
                case 41: return call(BUILDING, HOLD, x - first, next);
                case 50: return call(kind, WAIT, x, next) - call(WORK, TELL, x, next);
                case 60: return call(BUILDING, WAIT, x + number, next);
                case 61: return call(BUILDING, PUSH, x, next) ^ call(kind, HOLD, x, next);
                default: return 0;
            }
        }
    }

    /** A row of numbers; of 0 bits while it is missing. */
    private static final class Sheet {
        final int[] numbers = new int[MOST_NUMBERS];
        int bits = 0;
        int size = 0;

        void renew(int itsBits, int itsSize) {
            bits = itsBits;
            size = itsSize;
            for (int i = 0; i < MOST_NUMBERS; i++) {
                numbers[i] = 0;
            }
        }

        int cut(int v) {
            if (bits == 8) {
                return (byte) v;
            }
            return bits == 16 ? (short) v : v;
        }
    }
}
