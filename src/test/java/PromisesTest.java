/** For each promise of the document: ordinary inputs, the edges that it names, and wrong inputs. */
public final class PromisesTest {
    private static final int LOW = -1000000;
    private static final int BEYOND = LOW - 1;
    private static final int NONE = LOW - 2;
    private static final int STATE = LOW - 3;
    private static final int FULL = LOW - 4;
    private static final int KIND = LOW - 5;
    private static final int MIN = Integer.MIN_VALUE;
    private static final int MAX = Integer.MAX_VALUE;

    private static int promise = 0;
    private static int asked = 0;
    private static int wrong = 0;

    private static void due(String call, long got, long want) {
        asked++;
        if (got != want) {
            wrong++;
            System.out.println("promise " + promise + ": " + call + " answered " + got + ", due is " + want);
        }
    }

    public static void main(String[] args) {
        newObject();
        work();
        as();
        edit();
        link();
        unlink();
        week();
        rain();
        today();
        event();
        notice();
        back();
        of();
        known();
        plan();
        end();
        chain();
        one();
        without();
        butFor();
        window();
        feed();
        clause();
        saysValues();
        saysNames();
        force();
        claim();
        hurry();
        calm();
        least();
        proves();
        voice();
        trace();
        sheet();
        put();
        move();
        image();
        restore();
        told();
        found();
        System.out.println(asked + " answers asked: " + (wrong == 0 ? "all are as due" : wrong + " are not as due"));
        if (wrong != 0) {
            System.exit(1);
        }
    }

    // ---- what the tests share

    /** Works of a kind, each of so many days. */
    private static WhoseDelay with(int kind, int... days) {
        WhoseDelay x = new WhoseDelay();
        for (int d : days) {
            x.work(kind, d);
        }
        return x;
    }

    private static int feedText(WhoseDelay x, String text) {
        int answer = 0;
        for (int i = 0; i < text.length(); i++) {
            answer = x.feed(text.charAt(i), 1);
        }
        return answer;
    }

    private static int clauseOf(WhoseDelay x, int use, int from, String text) {
        feedText(x, text);
        return x.clause(use, from);
    }

    // ---- works

    private static void newObject() {
        promise = 1;
        WhoseDelay x = new WhoseDelay();
        for (int what = 0; what <= 9; what++) {
            due("told(" + what + ")", x.told(what), 0);
        }
        for (int k = 1; k <= 5; k++) {
            due("found(" + k + ")", x.found(k), 0);
        }
        due("end(0)", x.end(0), 0);
        due("known(900)", x.known(900), 0);
        due("week(31)", x.week(31), 31);
        due("calm()", x.calm(), 0);
        due("least(0, -1)", x.least(0, -1), 0);
        due("butFor(0, 0)", x.butFor(0, 0), 0);
        due("window(5, 0, -1, 0)", x.window(5, 0, -1, 0), 0);
        due("window(5, 0, 3, 0)", x.window(5, 0, 3, 0), 0);
        for (int what = 0; what <= 5; what++) {
            due("claim(" + what + ")", x.claim(what), 0);
        }
        due("chain(0, 0)", x.chain(0, 0), NONE);
        due("trace(0)", x.trace(0), NONE);
        due("put(3, 0, 0)", x.put(3, 0, 0), NONE);
        due("restore()", x.restore(), NONE);
        due("plan(0, 0, 0)", x.plan(0, 0, 0), BEYOND);
        due("says(0, 0)", x.says(0, 0), BEYOND);
        due("today(0)", x.today(0), 0);
        // One object knows nothing of another.
        WhoseDelay y = new WhoseDelay();
        y.work(0, 1);
        due("told(0) of the other", x.told(0), 0);
    }

    private static void work() {
        promise = 2;
        WhoseDelay x = new WhoseDelay();
        due("work(0, 1)", x.work(0, 1), 0);
        due("work(5, 40)", x.work(5, 40), 1);
        due("work(-1, 5)", x.work(-1, 5), BEYOND);
        due("work(6, 5)", x.work(6, 5), BEYOND);
        due("work(0, 0)", x.work(0, 0), BEYOND);
        due("work(0, 41)", x.work(0, 41), BEYOND);
        due("work(MIN, MAX)", x.work(MIN, MAX), BEYOND);
        for (int i = 2; i < 16; i++) {
            due("work(2, 3)", x.work(2, 3), i);
        }
        due("work(2, 3)", x.work(2, 3), FULL);
        due("work(6, 3)", x.work(6, 3), BEYOND);
        due("told(0)", x.told(0), 16);
        // WORK, BUILDING and FITTING rest on days 5 and 6, PAPERS and CURINGS do not.
        int[] kinds = {0, 1, 2, 3, 4, 5};
        int[] ends = {8, 8, 8, 8, 6, 6};
        for (int kind : kinds) {
            due("end(0) of 6 days of kind " + kind, with(kind, 6).end(0), ends[kind]);
        }
    }

    private static void as() {
        promise = 3;
        boolean[][] is = {
            {true, false, false, false, false, false},
            {true, true, false, false, false, false},
            {true, false, true, false, false, false},
            {true, false, true, true, false, false},
            {true, false, false, false, true, false},
            {true, false, true, false, false, true},
        };
        WhoseDelay x = new WhoseDelay();
        for (int kind = 0; kind < 6; kind++) {
            x.work(kind, 10 + kind);
        }
        for (int work = 0; work < 6; work++) {
            for (int kind = 0; kind < 6; kind++) {
                due("as(" + work + ", " + kind + ")", x.as(work, kind), is[work][kind] ? 10 + work : KIND);
            }
        }
        due("as(6, 0)", x.as(6, 0), BEYOND);
        due("as(-1, 0)", x.as(-1, 0), BEYOND);
        due("as(0, 6)", x.as(0, 6), BEYOND);
        due("as(0, -1)", x.as(0, -1), BEYOND);
        x.edit(3, 2);
        due("as(3, 2)", x.as(3, 2), 2);
    }

    private static void edit() {
        promise = 4;
        WhoseDelay x = with(0, 5, 6);
        due("edit(0, 40)", x.edit(0, 40), 5);
        due("edit(0, 1)", x.edit(0, 1), 40);
        due("as(0, 0)", x.as(0, 0), 1);
        due("edit(0, 0)", x.edit(0, 0), BEYOND);
        due("edit(0, 41)", x.edit(0, 41), BEYOND);
        due("edit(2, 5)", x.edit(2, 5), BEYOND);
        due("edit(-1, 5)", x.edit(-1, 5), BEYOND);
        x.hurry(1, 2, 9);
        due("edit(1, 1)", x.edit(1, 1), STATE);
        due("edit(1, 2)", x.edit(1, 2), STATE);
        due("edit(1, 0)", x.edit(1, 0), BEYOND);
        due("edit(1, 3)", x.edit(1, 3), 6);
        x.calm();
        due("edit(1, 1)", x.edit(1, 1), 3);
        due("found(3)", x.found(3), 2);
    }

    private static void link() {
        promise = 5;
        WhoseDelay x = with(4, 5, 5, 5);
        due("link(0, 1, 0)", x.link(0, 1, 0), 1);
        due("link(1, 2, 20)", x.link(1, 2, 20), 2);
        due("end(0)", x.end(0), 35);
        due("link(0, 2, 21)", x.link(0, 2, 21), BEYOND);
        due("link(0, 2, -1)", x.link(0, 2, -1), BEYOND);
        due("link(0, 3, 0)", x.link(0, 3, 0), BEYOND);
        due("link(3, 0, 0)", x.link(3, 0, 0), BEYOND);
        due("link(-1, 0, 0)", x.link(-1, 0, 0), BEYOND);
        due("link(1, 1, 0)", x.link(1, 1, 0), BEYOND);
        due("link(0, 1, 3)", x.link(0, 1, 3), STATE);
        due("link(0, 1, 21)", x.link(0, 1, 21), BEYOND);
        due("link(1, 0, 0)", x.link(1, 0, 0), STATE);
        due("link(2, 0, 0)", x.link(2, 0, 0), STATE);
        due("link(0, 2, 20)", x.link(0, 2, 20), 3);
        due("end(0)", x.end(0), 35);
        x.unlink(0, 1);
        due("link(1, 0, 0)", x.link(1, 0, 0), 3);
        due("end(0)", x.end(0), 35);
        due("plan(0, 0, 0)", x.plan(0, 0, 0), 5);
        linkFull();
        linkRings();
    }

    private static void linkFull() {
        WhoseDelay x = with(4, 1, 1, 1, 1, 1, 1, 1, 1, 1);
        int links = 0;
        for (int from = 8; from >= 0 && links < 30; from--) {
            for (int to = 0; to < from && links < 30; to++) {
                links++;
                due("link", x.link(from, to, 0), links);
            }
        }
        due("link(2, 1, 0)", x.link(2, 1, 0), FULL);
        due("link(1, 8, 0) is a ring ahead of FULL", x.link(1, 8, 0), STATE);
        due("link(8, 1, 0) is there ahead of FULL", x.link(8, 1, 0), STATE);
        due("link(2, 1, 21)", x.link(2, 1, 21), BEYOND);
        due("told(1)", x.told(1), 30);
        x.unlink(8, 0);
        due("link(2, 1, 0)", x.link(2, 1, 0), 30);
    }

    private static void linkRings() {
        WhoseDelay x = with(4, 1, 1, 1);
        x.link(1, 0, 0);
        x.link(0, 2, 0);
        due("link(2, 1, 0) is a ring through work 0", x.link(2, 1, 0), STATE);
        due("link(1, 2, 0)", x.link(1, 2, 0), 3);
        WhoseDelay y = with(4, 1, 1, 1, 1, 1, 1, 1, 1, 1, 1, 1, 1, 1, 1, 1, 1);
        for (int i = 15; i > 0; i--) {
            y.link(i, i - 1, 0);
        }
        due("link(0, 15, 0) is a ring of all", y.link(0, 15, 0), STATE);
        due("link(15, 0, 0)", y.link(15, 0, 0), 16);
        due("end(0)", y.end(0), 16);
    }

    private static void unlink() {
        promise = 6;
        WhoseDelay x = with(4, 5, 5);
        x.link(0, 1, 7);
        due("unlink(1, 0)", x.unlink(1, 0), NONE);
        due("unlink(0, 0)", x.unlink(0, 0), NONE);
        due("unlink(0, 2)", x.unlink(0, 2), BEYOND);
        due("unlink(2, 2)", x.unlink(2, 2), BEYOND);
        due("unlink(-1, 0)", x.unlink(-1, 0), BEYOND);
        due("end(0)", x.end(0), 17);
        due("unlink(0, 1)", x.unlink(0, 1), 7);
        due("end(0)", x.end(0), 5);
        due("told(1)", x.told(1), 0);
        due("unlink(0, 1)", x.unlink(0, 1), NONE);
        due("link(1, 0, 3)", x.link(1, 0, 3), 1);
        due("unlink(1, 0)", x.unlink(1, 0), 3);
    }

    private static void week() {
        promise = 7;
        WhoseDelay x = with(0, 8);
        due("end(0)", x.end(0), 10);
        due("week(127)", x.week(127), 31);
        due("end(0)", x.end(0), 8);
        due("week(0)", x.week(0), BEYOND);
        due("week(128)", x.week(128), BEYOND);
        due("week(-1)", x.week(-1), BEYOND);
        due("week(64)", x.week(64), 127);
        due("end(0)", x.end(0), 56);
        due("week(1)", x.week(1), 64);
        due("end(0)", x.end(0), 50);
        due("week(96)", x.week(96), 1);
        due("end(0) with days 5 and 6 alone", x.end(0), 28);
        x.work(1, 8);
        due("plan(0, 1, 1) of a DIGGING", x.plan(0, 1, 1), 28);
    }

    private static void rain() {
        promise = 8;
        WhoseDelay x = with(1, 3);
        x.work(0, 3);
        due("rain(1, 2, true)", x.rain(1, 2, true), 2);
        due("plan(0, 0, 1) of a DIGGING", x.plan(0, 0, 1), 5);
        due("plan(0, 1, 1) of a WORK", x.plan(0, 1, 1), 3);
        due("rain(2, 4, false)", x.rain(2, 4, false), 1);
        due("plan(0, 0, 1)", x.plan(0, 0, 1), 4);
        due("rain(0, 60, true)", x.rain(0, 60, true), 59);
        due("rain(0, 0, true)", x.rain(0, 0, true), BEYOND);
        due("rain(0, 61, true)", x.rain(0, 61, true), BEYOND);
        due("rain(-1, 2, true)", x.rain(-1, 2, true), BEYOND);
        due("rain(899, 2, true)", x.rain(899, 2, true), BEYOND);
        due("rain(900, 1, true)", x.rain(900, 1, true), BEYOND);
        due("rain(MAX, 60, true)", x.rain(MAX, 60, true), BEYOND);
        due("rain(MIN, MIN, true)", x.rain(MIN, MIN, true), BEYOND);
        due("told(6)", x.told(6), 60);
        due("rain(899, 1, true)", x.rain(899, 1, true), 1);
        due("rain(840, 60, true)", x.rain(840, 60, true), 59);
        for (int day = 60; day < 840; day += 60) {
            due("rain(" + day + ", 60, true)", x.rain(day, 60, true), 60);
        }
        due("told(6)", x.told(6), 900);
        // Day 900 is the fourth behind a week's first one; 901 and 902 rest; then 903, 904.
        due("plan(0, 0, 1) behind all rain", x.plan(0, 0, 1), 905);
        x.edit(0, 1);
        due("plan(0, 0, 1) behind all rain", x.plan(0, 0, 1), 901);
        due("rain(894, 1, false)", x.rain(894, 1, false), 1);
        due("plan(0, 0, 1) on a day that rests", x.plan(0, 0, 1), 901);
        due("rain(899, 1, false)", x.rain(899, 1, false), 1);
        due("plan(0, 0, 1) on the last day", x.plan(0, 0, 1), 900);
        x.rain(896, 1, false);
        x.rain(899, 1, true);
        due("plan(0, 0, 1) on a day ahead of rain", x.plan(0, 0, 1), 897);
        x.edit(0, 2);
        due("plan(0, 0, 1) of a day ahead of rain and one behind", x.plan(0, 0, 1), 901);
        due("end(0) of a DIGGING of a day", with(1, 1).end(0), 1);
        WhoseDelay y = with(1, 1, 1);
        y.link(0, 1, 0);
        due("end(0) of two DIGGINGS of a day", y.end(0), 2);
        y.rain(0, 2, true);
        due("end(0) of them behind rain", y.end(0), 4);
    }

    private static void today() {
        promise = 9;
        WhoseDelay x = new WhoseDelay();
        due("today(0)", x.today(0), 0);
        due("today(-1)", x.today(-1), BEYOND);
        due("today(7)", x.today(7), 0);
        due("today(7)", x.today(7), 7);
        due("today(6)", x.today(6), BEYOND);
        due("today(901)", x.today(901), BEYOND);
        due("today(900)", x.today(900), 7);
        due("today(MAX)", x.today(MAX), BEYOND);
        due("told(5)", x.told(5), 900);
    }

    // ---- events, plans

    private static void event() {
        promise = 10;
        WhoseDelay x = with(4, 5, 5);
        x.today(10);
        due("event(0, 0, 1)", x.event(0, 0, 1), 0);
        due("event(13, 10, 30)", x.event(13, 10, 30), 1);
        due("event(4, 1, 1)", x.event(4, 1, 1), BEYOND);
        due("event(9, 1, 1)", x.event(9, 1, 1), BEYOND);
        due("event(20, 1, 1)", x.event(20, 1, 1), BEYOND);
        due("event(-1, 1, 1)", x.event(-1, 1, 1), BEYOND);
        due("event(-10, 1, 1)", x.event(-10, 1, 1), BEYOND);
        due("event(MIN, 1, 1)", x.event(MIN, 1, 1), BEYOND);
        due("event(0, -1, 1)", x.event(0, -1, 1), BEYOND);
        due("event(0, 11, 1)", x.event(0, 11, 1), BEYOND);
        due("event(0, 1, 0)", x.event(0, 1, 0), BEYOND);
        due("event(0, 1, 31)", x.event(0, 1, 31), BEYOND);
        due("end(3)", x.end(3), 35);
        for (int i = 2; i < 20; i++) {
            due("event(1, 1, 1)", x.event(1, 1, 1), i);
        }
        due("event(1, 1, 1)", x.event(1, 1, 1), FULL);
        due("event(1, 11, 1)", x.event(1, 11, 1), BEYOND);
        due("told(2)", x.told(2), 20);
        due("end of all", x.end((1 << 20) - 1), 35);
        due("plan of all", x.plan((1 << 20) - 1, 0, 1), 24);
        // Calls that go through all EVENTS, when there can be no more.
        due("known(10)", x.known(10), (1 << 20) - 1);
        due("one(19, 10)", x.one(19, 10), 1);
        due("without(1, 10)", x.without(1, 10), 11);
        due("butFor(1, 10)", x.butFor(1, 10), 0);
        due("butFor(3, 10)", x.butFor(3, 10), 11);
        due("window(5, 0, 1, 10)", x.window(5, 0, 1, 10), 18);
        due("claim(4)", x.claim(4), 3);
        due("claim(5)", x.claim(5), 0);
    }

    private static void notice() {
        promise = 11;
        WhoseDelay x = with(4, 5);
        x.today(10);
        x.event(0, 5, 1);
        x.event(0, 5, 1);
        x.event(0, 5, 1);
        due("notice(0, 4)", x.notice(0, 4), BEYOND);
        due("notice(0, 11)", x.notice(0, 11), BEYOND);
        due("notice(3, 6)", x.notice(3, 6), BEYOND);
        due("notice(-1, 6)", x.notice(-1, 6), BEYOND);
        due("of(0, 4)", x.of(0, 4), -1);
        due("notice(0, 5)", x.notice(0, 5), 1);
        due("notice(1, 10)", x.notice(1, 10), 1);
        due("notice(0, 6)", x.notice(0, 6), STATE);
        due("notice(0, 4)", x.notice(0, 4), BEYOND);
        due("of(0, 4)", x.of(0, 4), 5);
        due("of(1, 4)", x.of(1, 4), 10);
        x.today(20);
        x.back(2);
        due("notice(2, 20) of one TAKEN BACK", x.notice(2, 20), 1);
        WhoseDelay y = with(4, 5);
        y.event(0, 0, 1);
        due("notice(0, 0) on day 0", y.notice(0, 0), 1);
        due("notice(0, 0) on day 0", y.notice(0, 0), STATE);
    }

    private static void back() {
        promise = 12;
        WhoseDelay x = with(4, 5);
        x.event(0, 0, 1);
        due("back(0) of one told TODAY", x.back(0), STATE);
        due("back(1)", x.back(1), BEYOND);
        due("back(-1)", x.back(-1), BEYOND);
        x.today(1);
        due("back(0)", x.back(0), 1);
        due("back(0)", x.back(0), STATE);
        due("of(0, 6)", x.of(0, 6), 1);
        due("known(0)", x.known(0), 1);
        due("known(1)", x.known(1), 0);
        x.today(2);
        due("back(0)", x.back(0), STATE);
    }

    private static void of() {
        promise = 13;
        WhoseDelay x = with(4, 5, 6);
        x.today(3);
        x.event(12, 2, 9);
        int[] first = {1, 2, 2, 9, -1, 3, -1};
        for (int what = 0; what <= 6; what++) {
            due("of(0, " + what + ")", x.of(0, what), first[what]);
        }
        x.today(8);
        x.notice(0, 7);
        x.back(0);
        due("of(0, 4)", x.of(0, 4), 7);
        due("of(0, 5)", x.of(0, 5), 3);
        due("of(0, 6)", x.of(0, 6), 8);
        due("of(0, 7)", x.of(0, 7), BEYOND);
        due("of(0, -1)", x.of(0, -1), BEYOND);
        due("of(1, 0)", x.of(1, 0), BEYOND);
        due("of(-1, 0)", x.of(-1, 0), BEYOND);
    }

    private static void known() {
        promise = 14;
        WhoseDelay x = with(4, 5);
        x.event(0, 0, 1);
        x.today(5);
        x.event(0, 0, 1);
        x.today(9);
        x.back(0);
        due("known(0)", x.known(0), 1);
        due("known(4)", x.known(4), 1);
        due("known(5)", x.known(5), 3);
        due("known(8)", x.known(8), 3);
        due("known(9)", x.known(9), 2);
        due("known(900)", x.known(900), 2);
        due("known(901)", x.known(901), BEYOND);
        due("known(-1)", x.known(-1), BEYOND);
    }

    private static void plan() {
        promise = 15;
        WhoseDelay x = with(4, 40, 40, 40, 1);
        x.link(0, 1, 20);
        x.link(1, 2, 20);
        x.today(1);
        x.event(30, 0, 30);
        x.event(30, 0, 29);
        x.event(30, 0, 1);
        due("plan(0, 2, 0)", x.plan(0, 2, 0), 120);
        due("plan(0, 2, 1)", x.plan(0, 2, 1), 160);
        due("plan(0, 2, 2)", x.plan(0, 2, 2), 0);
        due("plan(0, 0, 2)", x.plan(0, 0, 2), 0);
        due("plan(0, 3, 2) of 159 days", x.plan(0, 3, 2), 99);
        due("plan(3, 3, 2) of 100 days", x.plan(3, 3, 2), 99);
        due("plan(7, 3, 2) of 99 days", x.plan(7, 3, 2), 99);
        x.edit(3, 2);
        due("plan(7, 3, 2) of 98 days", x.plan(7, 3, 2), 98);
        due("plan(7, 3, 0)", x.plan(7, 3, 0), 0);
        due("plan(7, 3, 1)", x.plan(7, 3, 1), 62);
        due("plan(8, 3, 1)", x.plan(8, 3, 1), BEYOND);
        due("plan(-1, 3, 1)", x.plan(-1, 3, 1), BEYOND);
        due("plan(MIN, 3, 1)", x.plan(MIN, 3, 1), BEYOND);
        due("plan(0, 4, 1)", x.plan(0, 4, 1), BEYOND);
        due("plan(0, -1, 1)", x.plan(0, -1, 1), BEYOND);
        due("plan(0, 0, 3)", x.plan(0, 0, 3), BEYOND);
        due("plan(0, 0, -1)", x.plan(0, 0, -1), BEYOND);
        // READY on a day that rests: the work has no day more, and a float over the rest.
        WhoseDelay y = with(0, 5, 1);
        y.link(0, 1, 0);
        due("plan(0, 1, 0)", y.plan(0, 1, 0), 5);
        due("plan(0, 1, 1)", y.plan(0, 1, 1), 8);
        y.edit(0, 4);
        y.work(4, 6);
        y.link(2, 1, 0);
        due("plan(0, 2, 2)", y.plan(0, 2, 2), 1);
        due("plan(0, 0, 2) is till the rest", y.plan(0, 0, 2), 1);
    }

    private static void end() {
        promise = 16;
        WhoseDelay x = with(4, 5, 9);
        x.event(0, 0, 6);
        x.event(11, 0, 3);
        due("end(0)", x.end(0), 9);
        due("end(1)", x.end(1), 11);
        due("end(2)", x.end(2), 12);
        due("end(3)", x.end(3), 12);
        due("end(4)", x.end(4), BEYOND);
        due("end(-1)", x.end(-1), BEYOND);
        due("end(MIN)", x.end(MIN), BEYOND);
        x.today(1);
        x.back(1);
        due("end(2) of one TAKEN BACK", x.end(2), 12);
        // The longest there can be: a week of one day, all in one row.
        WhoseDelay y = with(0, 40, 40, 40, 40, 40, 40, 40, 40, 40, 40, 40, 40, 40, 40, 40, 40);
        y.week(64);
        for (int i = 0; i < 15; i++) {
            y.link(i, i + 1, 0);
        }
        for (int i = 0; i < 20; i++) {
            y.event(0, 0, 30);
        }
        due("end of all", y.end((1 << 20) - 1), (640 + 600) * 7);
    }

    private static void chain() {
        promise = 17;
        WhoseDelay x = with(4, 3, 5, 2, 4, 9);
        x.link(1, 3, 0);
        x.link(0, 3, 2);
        x.link(2, 3, 1);
        // 0 and 1 both make 3 READY on day 5; 3 and 4 both end on day 9.
        due("chain(0, 0)", x.chain(0, 0), 3);
        due("chain(0, 1)", x.chain(0, 1), 0);
        due("chain(0, 2)", x.chain(0, 2), NONE);
        due("chain(0, 16)", x.chain(0, 16), NONE);
        due("chain(0, MAX)", x.chain(0, MAX), NONE);
        due("chain(0, -1)", x.chain(0, -1), BEYOND);
        due("chain(1, 0)", x.chain(1, 0), BEYOND);
        x.event(23, 0, 3);
        due("chain(1, 0)", x.chain(1, 0), 3);
        due("chain(1, 1)", x.chain(1, 1), 2);
        x.event(40, 0, 2);
        due("chain(2, 0)", x.chain(2, 0), 4);
        due("chain(2, 1)", x.chain(2, 1), NONE);
        due("chain(-1, 0)", x.chain(-1, 0), BEYOND);
        due("chain(0, 0) of one work", with(4, 1).chain(0, 0), 0);
        due("chain(0, 1) of one work", with(4, 1).chain(0, 1), NONE);
        due("chain(0, 0) of two works", with(4, 1, 2).chain(0, 0), 1);
        WhoseDelay y = with(4, 1, 1, 1, 1, 1, 1, 1, 1, 1, 1, 1, 1, 1, 1, 1, 1);
        for (int i = 15; i > 0; i--) {
            y.link(i, i - 1, 0);
        }
        for (int i = 0; i < 16; i++) {
            due("chain(0, " + i + ")", y.chain(0, i), i);
        }
        due("chain(0, 16)", y.chain(0, 16), NONE);
    }

    // ---- whose it was

    /** Two works at once of 10 days; what holds them is told out of order. */
    private static WhoseDelay held() {
        WhoseDelay x = with(4, 10, 10);
        x.today(20);
        x.event(0, 7, 4);
        x.event(11, 3, 6);
        x.event(2, 7, 5);
        x.today(30);
        x.back(1);
        return x;
    }

    private static void one() {
        promise = 18;
        WhoseDelay x = held();
        // IN ORDER 1, 0, 2: ends 16, 16, 19.
        due("one(1, 20)", x.one(1, 20), 6);
        due("one(0, 20)", x.one(0, 20), 0);
        due("one(2, 20)", x.one(2, 20), 3);
        // Without 1 from day 30 on: ends 14, 19.
        due("one(0, 30)", x.one(0, 30), 4);
        due("one(2, 30)", x.one(2, 30), 5);
        due("one(1, 30)", x.one(1, 30), NONE);
        due("one(0, 19)", x.one(0, 19), NONE);
        due("one(3, 20)", x.one(3, 20), BEYOND);
        due("one(-1, 20)", x.one(-1, 20), BEYOND);
        due("one(0, 901)", x.one(0, 901), BEYOND);
        due("one(0, -1)", x.one(0, -1), BEYOND);
        due("one(1, 901)", x.one(1, 901), BEYOND);
        due("one(0, 900)", x.one(0, 900), 4);
    }

    private static void without() {
        promise = 19;
        WhoseDelay x = held();
        due("without(0, 20)", x.without(0, 20), 3);
        due("without(1, 20)", x.without(1, 20), 0);
        due("without(2, 20)", x.without(2, 20), 3);
        due("without(2, 30)", x.without(2, 30), 5);
        due("without(1, 30)", x.without(1, 30), NONE);
        due("without(1, 0)", x.without(1, 0), NONE);
        due("without(3, 20)", x.without(3, 20), BEYOND);
        due("without(-1, 20)", x.without(-1, 20), BEYOND);
        due("without(0, 901)", x.without(0, 901), BEYOND);
        due("without(0, -1)", x.without(0, -1), BEYOND);
    }

    private static void butFor() {
        promise = 20;
        WhoseDelay x = held();
        x.event(2, 1, 1);
        due("butFor(0, 20)", x.butFor(0, 20), 3);
        due("butFor(1, 20)", x.butFor(1, 20), 0);
        due("butFor(2, 20)", x.butFor(2, 20), 3);
        due("butFor(2, 30)", x.butFor(2, 30), 6);
        due("butFor(3, 30)", x.butFor(3, 30), 0);
        due("butFor(0, 0)", x.butFor(0, 0), 0);
        due("butFor(4, 0)", x.butFor(4, 0), BEYOND);
        due("butFor(-1, 0)", x.butFor(-1, 0), BEYOND);
        due("butFor(0, 901)", x.butFor(0, 901), BEYOND);
        due("butFor(0, -1)", x.butFor(0, -1), BEYOND);
    }

    private static void window() {
        promise = 21;
        WhoseDelay x = with(4, 10);
        x.today(900);
        x.event(0, 4, 1);
        x.event(1, 5, 2);
        x.event(2, 9, 4);
        x.event(3, 10, 8);
        x.event(3, 900, 16);
        due("window(5, 0, -1, 900)", x.window(5, 0, -1, 900), 1);
        due("window(5, 1, -1, 900)", x.window(5, 1, -1, 900), 6);
        due("window(5, 1, 1, 900)", x.window(5, 1, 1, 900), 2);
        due("window(5, 1, 2, 900)", x.window(5, 1, 2, 900), 4);
        due("window(5, 1, 3, 900)", x.window(5, 1, 3, 900), 0);
        due("window(5, 2, -1, 900)", x.window(5, 2, -1, 900), 8);
        due("window(5, 179, -1, 900)", x.window(5, 179, -1, 900), 0);
        due("window(6, 150, 3, 900)", x.window(6, 150, 3, 900), 16);
        due("window(100, 0, -1, 900)", x.window(100, 0, -1, 900), 15);
        due("window(100, 179, 0, 900)", x.window(100, 179, 0, 900), 0);
        due("window(100, 0, -1, 899)", x.window(100, 0, -1, 899), 0);
        due("window(4, 0, 0, 0)", x.window(4, 0, 0, 0), BEYOND);
        due("window(101, 0, 0, 0)", x.window(101, 0, 0, 0), BEYOND);
        due("window(5, -1, 0, 0)", x.window(5, -1, 0, 0), BEYOND);
        due("window(5, 180, 0, 0)", x.window(5, 180, 0, 0), BEYOND);
        due("window(5, 0, -2, 0)", x.window(5, 0, -2, 0), BEYOND);
        due("window(5, 0, 4, 0)", x.window(5, 0, 4, 0), BEYOND);
        due("window(5, 0, 0, 901)", x.window(5, 0, 0, 901), BEYOND);
        due("window(5, 0, 0, -1)", x.window(5, 0, 0, -1), BEYOND);
        due("parts of 1 by 1", parts(1, 0, 0, 0), 1000);
        due("parts of 1 by 0, 0, 0, 1", parts(0, 0, 0, 1), 1);
        due("parts of 5 by 5, 5", parts(5, 5, 0, 0), 3200);
        due("parts of 4 by 0, 4, 4, 4", parts(0, 4, 4, 4), 211);
        due("parts of 2 by 1, 0, 0, 2", parts(1, 0, 0, 2), 1001);
        due("parts of 7 by 7, 7, 7, 7", parts(7, 7, 7, 7), 2221);
        due("parts of 9 by 9, 1, 1, 1", parts(9, 1, 1, 1), 7110);
    }

    /** What a window tells when each cause holds a work of its own: the parts as digits. */
    private static int parts(int... days) {
        WhoseDelay x = with(4, 10, 10, 10, 10);
        for (int c = 0; c < 4; c++) {
            if (days[c] > 0) {
                x.event(10 * c + c, 0, days[c]);
            }
        }
        int all = 0;
        for (int c = 0; c < 4; c++) {
            all = all * 10 + x.window(5, 0, c, 0);
        }
        return all;
    }

    // ---- the contract

    private static void feed() {
        promise = 22;
        WhoseDelay x = new WhoseDelay();
        due("feed(.., 0)", x.feed(1L, 0), BEYOND);
        due("feed(.., 9)", x.feed(1L, 9), BEYOND);
        due("feed(.., -1)", x.feed(1L, -1), BEYOND);
        for (int i = 1; i <= 7; i++) {
            due("feed(.., 8)", x.feed(-1L, 8), 8 * i);
        }
        due("feed(.., 5)", x.feed(-1L, 5), FULL);
        due("told(7)", x.told(7), 56);
        due("feed(.., 4)", x.feed(-1L, 4), 60);
        due("feed(.., 1)", x.feed(-1L, 1), FULL);
        due("feed(.., 9)", x.feed(-1L, 9), BEYOND);
        due("told(7)", x.told(7), 60);
        due("clause(0, 0)", x.clause(0, 0), -10);
        due("told(7)", x.told(7), 0);
        // The lowest byte comes first, and just so many come.
        due("feed(\"1+1\" and more, 3)", x.feed(0x7878787878312B31L, 3), 3);
        due("clause(1, 0)", x.clause(1, 0), 0);
        due("feed(\"c<d+1234\", 8)", x.feed(0x343332312B643C63L, 8), 8);
        due("clause(1, 0)", x.clause(1, 0), 1);
    }

    private static void clause() {
        promise = 23;
        String[] right = {"c", "d", "k", "n", "t", "f", "0", "1234", "0000", "(c<d)=k", "c<d&c=d|c>d", "!!!!!c", "(((((c)))))", "(!(!(c)))",
            "!c+!c+!c+!c+!c+!c+!c", "(c)+(c)+(c)+(c)+(c)+(c)", "!1234*!n", "1+2-3*4/5<6"};
        for (String text : right) {
            due("clause of " + text, clauseOf(new WhoseDelay(), 0, 0, text), 0);
        }
        String[] wrongs = {"", " c", "c ", "x", "C", "12345", "c<d=k", "c<d|c<d<k", "()", "(c", "c)", "!", "!!!!!!c", "((((((", "c+", "+c", "-1",
            "c&&d", "c!d", "1c", "c1", "c(d)", "cd", "(c<d<k)", "1.5", "c=", "c==d", "(c|)", "!(c", "!)", "\u0000", "c\u0000", "\u00e3", "((((((c))))))",
            "!!!!!1+!!!!!!1", "(((((1234", "(((((12345", "c<", "c|", "|c"};
        int[] faults = {0, 0, 1, 0, 0, 4, 3, 7, 1, 2, 1, 1, 5, 5, 2, 0, 0,
            2, 1, 1, 1, 1, 1, 4, 1, 2, 2, 3, 3, 1, 0, 1, 0, 5,
            12, 9, 9, 2, 2, 0};
        for (int i = 0; i < wrongs.length; i++) {
            WhoseDelay x = new WhoseDelay();
            due("clause of " + wrongs[i], clauseOf(x, 1, 900, wrongs[i]), -10 - faults[i]);
            due("told(4)", x.told(4), 0);
            due("told(7)", x.told(7), 0);
        }
        clauseLimits();
    }

    private static void clauseLimits() {
        WhoseDelay x = new WhoseDelay();
        feedText(x, "c");
        due("clause(2, 0)", x.clause(2, 0), BEYOND);
        due("clause(-1, 0)", x.clause(-1, 0), BEYOND);
        due("clause(0, -1)", x.clause(0, -1), BEYOND);
        due("clause(0, 901)", x.clause(0, 901), BEYOND);
        due("told(7) stays", x.told(7), 1);
        due("clause(0, 900)", x.clause(0, 900), 0);
        due("clause(0, 0) of an empty tape", x.clause(0, 0), -10);
        for (int i = 1; i < 10; i++) {
            due("clause", clauseOf(x, i % 2, 0, "1"), i);
        }
        feedText(x, "x");
        due("clause(0, 0)", x.clause(0, 0), FULL);
        due("clause(0, 901)", x.clause(0, 901), BEYOND);
        due("told(7) stays", x.told(7), 1);
        due("told(4)", x.told(4), 10);
        // A text as long as the tape.
        StringBuilder b = new StringBuilder("10");
        for (int i = 0; i < 29; i++) {
            b.append("+1");
        }
        WhoseDelay y = with(4, 5);
        y.event(0, 0, 1);
        due("clause of 60 bytes", clauseOf(y, 1, 0, b.toString()), 0);
        due("says(1, 0)", y.says(1, 0), 39);
        b.setCharAt(58, '+');
        b.setCharAt(59, '(');
        b.setCharAt(57, '1');
        due("clause of 60 bytes that ends too early", clauseOf(y, 1, 0, b.toString()), -10 - 60);
    }

    private static int priceBy(String text) {
        WhoseDelay x = with(4, 5);
        x.event(0, 0, 1);
        due("clause of " + text, clauseOf(x, 1, 0, text), 0);
        return x.says(1, 0);
    }

    private static int riskBy(String text) {
        WhoseDelay x = with(4, 5);
        x.event(0, 0, 1);
        due("clause of " + text, clauseOf(x, 0, 0, text), 0);
        return x.says(0, 0);
    }

    private static void saysValues() {
        promise = 24;
        String[] texts = {"2+3*4", "10-3-2", "100/7/2", "7/0", "(0-7)/2+10", "(7-14)/2*2+20", "9999", "9999+1", "0-1", "9999*9999*9999",
            "0-9999*9999*9999", "(0-9999*9999*9999)/9999/9999", "1|2", "2&3", "0|0", "0&5", "5", "!5", "!0", "!!7", "3<4", "4<4", "4=4", "5=4",
            "5>4", "4>4", "1+2<4", "2=2+0", "1|0&0", "(1|0)&0", "!0+1", "!(0+1)", "0007", "8192*8192*32/(0-1)", "8192*8192*32/(0-1)<0",
            "8192*8192*32<0", "8192*8192*32-1>0", "7|0", "7+0", "2*3+4*5", "20-2*3", "12/4*3", "3-5+7", "1<2&2<1", "1<2|2<1", "!1<1", "1/0+5",
            "5&1/0", "7*(2+3)", "((((2))))*3"};
        int[] values = {14, 5, 7, 0, 7, 14, 9999, 9999, 0, 0,
            9999, 10, 1, 1, 0, 0, 5, 0, 1, 1, 1, 0, 1, 0,
            1, 0, 1, 1, 1, 0, 2, 0, 7, 0, 1,
            1, 1, 1, 7, 26, 14, 9, 5, 0, 1, 1, 5,
            0, 35, 6};
        for (int i = 0; i < texts.length; i++) {
            due("says(1, 0) by " + texts[i], priceBy(texts[i]), values[i]);
        }
        due("says(0, 0) by 0-5", riskBy("0-5"), 0);
        due("says(0, 0) by 0", riskBy("0"), 0);
        due("says(0, 0) by 1", riskBy("1"), 1);
        due("says(0, 0) by 2", riskBy("2"), 2);
        due("says(0, 0) by 9999", riskBy("9999"), 2);
        WhoseDelay x = with(4, 5);
        for (int cause = 0; cause < 4; cause++) {
            x.event(cause, 0, 1);
        }
        int[] risks = {2, 0, 1, 1};
        for (int e = 0; e < 4; e++) {
            due("says(0, " + e + ") without a clause", x.says(0, e), risks[e]);
            due("says(1, " + e + ") without a clause", x.says(1, e), 100);
        }
        due("says(2, 0)", x.says(2, 0), BEYOND);
        due("says(-1, 0)", x.says(-1, 0), BEYOND);
        due("says(0, 4)", x.says(0, 4), BEYOND);
        due("says(1, -1)", x.says(1, -1), BEYOND);
    }

    private static void saysNames() {
        WhoseDelay x = new WhoseDelay();
        x.work(3, 5);
        x.work(4, 30);
        x.today(50);
        x.event(2, 10, 6);      // days 10 .. 15 of the SKY on a FITTING
        x.event(13, 15, 1);     // day 15 of OTHERS
        x.event(2, 16, 4);      // days 16 .. 19 of the SKY
        x.event(12, 15, 5);     // days 15 .. 19 of the SKY
        x.notice(0, 10);
        x.notice(1, 22);
        String[] texts = {"c", "d", "k", "n", "t", "f"};
        int[][] values = {{2, 3, 2, 2}, {6, 1, 4, 5}, {3, 4, 3, 4}, {0, 7, 999, 999}, {1, 1, 0, 1}, {17, 0, 17, 0}};
        for (int i = 0; i < 6; i++) {
            clauseOf(x, 1, 0, texts[i]);
            for (int e = 0; e < 4; e++) {
                due("says(1, " + e + ") by " + texts[i], x.says(1, e), values[i][e]);
            }
        }
        // What is TAKEN BACK is TWO AT ONCE with nothing, but of it is still said.
        x.today(60);
        x.back(1);
        clauseOf(x, 1, 0, "t");
        due("says(1, 0) by t", x.says(1, 0), 0);
        due("says(1, 1) by t", x.says(1, 1), 1);
        due("says(1, 3) by t", x.says(1, 3), 0);
        clauseOf(x, 1, 0, "f*100+n");
        due("says(1, 0) by f*100+n", x.says(1, 0), 1700);
        x.edit(1, 1);
        due("says(1, 0) by f*100+n, its float being 0 now", x.says(1, 0), 0);
        WhoseDelay y = with(4, 5);
        y.today(9);
        y.event(0, 0, 3);       // days 0 .. 2
        y.event(1, 3, 1);       // day 3
        y.event(2, 3, 1);       // day 3
        y.notice(0, 0);
        clauseOf(y, 1, 0, "n*10+t");
        due("says(1, 0) by n*10+t", y.says(1, 0), 0);
        due("says(1, 1) by n*10+t", y.says(1, 1), 9991);
        due("claim(5)", y.claim(5), 6);
    }

    private static void force() {
        promise = 25;
        WhoseDelay x = with(4, 5);
        x.today(30);
        x.event(0, 9, 1);
        x.event(0, 10, 1);
        x.event(0, 30, 1);
        due("force(0, 0)", x.force(0, 0), NONE);
        clauseOf(x, 0, 10, "1");
        clauseOf(x, 1, 0, "1");
        clauseOf(x, 0, 30, "2");
        clauseOf(x, 0, 10, "0");
        due("force(0, 0)", x.force(0, 0), NONE);
        due("force(0, 1)", x.force(0, 1), 3);
        due("force(0, 2) is that told last, not that from the latest day", x.force(0, 2), 3);
        due("force(1, 0)", x.force(1, 0), 1);
        due("force(1, 2)", x.force(1, 2), 1);
        due("force(2, 0)", x.force(2, 0), BEYOND);
        due("force(-1, 0)", x.force(-1, 0), BEYOND);
        due("force(0, 3)", x.force(0, 3), BEYOND);
        due("force(0, -1)", x.force(0, -1), BEYOND);
        clauseOf(x, 0, 20, "1");
        due("force(0, 1)", x.force(0, 1), 3);
        due("force(0, 2)", x.force(0, 2), 4);
        WhoseDelay y = with(4, 5);
        y.event(0, 0, 1);
        clauseOf(y, 1, 0, "7");
        due("force(1, 0) of the first clause", y.force(1, 0), 0);
        due("says(1, 0)", y.says(1, 0), 7);
        due("force(0, 0)", y.force(0, 0), NONE);
    }

    private static void claim() {
        promise = 26;
        WhoseDelay x = with(4, 10, 10);
        x.today(20);
        x.event(0, 8, 3);       // OWNER, TIME and PAY
        x.event(1, 10, 4);      // BUILDER, nothing
        x.event(12, 3, 2);      // SKY, TIME, on the other work
        x.event(10, 2, 5);      // OWNER, TIME and PAY, on the other work
        int[] first = {7, 17, 500, 0, 13, 15};
        for (int what = 0; what < 6; what++) {
            due("claim(" + what + ")", x.claim(what), first[what]);
        }
        due("claim(6)", x.claim(6), BEYOND);
        due("claim(-1)", x.claim(-1), BEYOND);
        x.event(1, 19, 2);      // BUILDER: 19 in all on the first work
        due("claim(3)", x.claim(3), 2);
        due("claim(5)", x.claim(5), 15);
        // PAY IN ORDER: with PAY are 0 and 3, ends 15 and 15: the first has 5 days, the other none.
        clauseOf(x, 1, 0, "d*10");
        due("claim(2)", x.claim(2), 250);
        clauseOf(x, 0, 0, "2");
        // All with PAY: 3 on day 2, 2 on 3, 0 on 8, 1 on 10, 4 on 19: ends 15, 17, 17, 17, 19.
        due("claim(2)", x.claim(2), 5 * 50 + 2 * 20 + 2 * 20);
        due("claim(0)", x.claim(0), 9);
        due("claim(3)", x.claim(3), 0);
        due("claim(4)", x.claim(4), 31);
        x.today(30);
        x.back(3);
        due("claim(0)", x.claim(0), 9);
        due("claim(2)", x.claim(2), 2 * 20 + 30 + 4 * 40 + 2 * 20);
        due("claim(4)", x.claim(4), 23);
        due("claim(5)", x.claim(5), 3);
        clauseOf(x, 0, 0, "0");
        due("claim(0)", x.claim(0), 0);
        due("claim(1)", x.claim(1), 10);
        due("claim(2)", x.claim(2), 0);
        due("claim(3)", x.claim(3), 9);
        due("claim(4)", x.claim(4), 0);
    }

    // ---- hurry

    private static void hurry() {
        promise = 27;
        WhoseDelay x = with(0, 2, 3, 9, 9, 9, 9, 9);
        x.work(5, 9);
        due("hurry(0, 2, 1)", x.hurry(0, 2, 1), STATE);
        due("hurry(0, 1, 1)", x.hurry(0, 1, 1), 1);
        due("hurry(0, 1, 1)", x.hurry(0, 1, 1), STATE);
        due("hurry(1, 2, 999)", x.hurry(1, 2, 999), 2);
        due("hurry(2, 0, 1)", x.hurry(2, 0, 1), BEYOND);
        due("hurry(2, 3, 1)", x.hurry(2, 3, 1), BEYOND);
        due("hurry(2, 1, 0)", x.hurry(2, 1, 0), BEYOND);
        due("hurry(2, 1, 1000)", x.hurry(2, 1, 1000), BEYOND);
        due("hurry(8, 1, 1)", x.hurry(8, 1, 1), BEYOND);
        due("hurry(-1, 1, 1)", x.hurry(-1, 1, 1), BEYOND);
        due("hurry(7, 1, 1)", x.hurry(7, 1, 1), KIND);
        due("hurry(7, 3, 1)", x.hurry(7, 3, 1), BEYOND);
        due("hurry(2, 1, 1)", x.hurry(2, 1, 1), 3);
        due("hurry(3, 1, 1)", x.hurry(3, 1, 1), 4);
        due("hurry(4, 1, 1)", x.hurry(4, 1, 1), 5);
        due("hurry(5, 1, 1)", x.hurry(5, 1, 1), FULL);
        due("hurry(4, 1, 1)", x.hurry(4, 1, 1), STATE);
        due("hurry(7, 1, 1)", x.hurry(7, 1, 1), KIND);
        due("told(8)", x.told(8), 5);
    }

    private static void calm() {
        promise = 28;
        WhoseDelay x = with(4, 5, 5);
        x.hurry(0, 1, 1);
        x.hurry(1, 1, 1);
        due("least(4, -1)", x.least(4, -1), 2);
        due("calm()", x.calm(), 2);
        due("calm()", x.calm(), 0);
        due("told(8)", x.told(8), 0);
        due("least(4, -1)", x.least(4, -1), NONE);
        due("least(4, 0)", x.least(4, 0), BEYOND);
        due("edit(0, 1)", x.edit(0, 1), 5);
        due("hurry(1, 2, 1)", x.hurry(1, 2, 1), 1);
    }

    private static void least() {
        promise = 29;
        WhoseDelay x = with(4, 5, 5, 9);
        x.link(0, 1, 0);
        x.hurry(0, 2, 3);
        x.hurry(1, 2, 3);
        x.hurry(2, 2, 5);
        due("least(10, -1)", x.least(10, -1), 0);
        due("least(9, -1)", x.least(9, -1), 3);
        due("least(9, 0): the first least", x.least(9, 0), 0);
        due("least(9, 1)", x.least(9, 1), 1);
        due("least(9, 2)", x.least(9, 2), 0);
        due("least(8, -1)", x.least(8, -1), 11);
        due("least(8, 0)", x.least(8, 0), 0);
        due("least(8, 1)", x.least(8, 1), 2);
        due("least(8, 2)", x.least(8, 2), 1);
        due("least(7, -1)", x.least(7, -1), 19);
        due("least(7, 0)", x.least(7, 0), 1);
        due("least(7, 1)", x.least(7, 1), 2);
        due("least(7, 2)", x.least(7, 2), 2);
        due("least(6, -1)", x.least(6, -1), NONE);
        due("least(6, 2)", x.least(6, 2), NONE);
        due("least(7, 3)", x.least(7, 3), BEYOND);
        due("least(7, -2)", x.least(7, -2), BEYOND);
        due("least(-1, 0)", x.least(-1, 0), BEYOND);
        due("least(10000, 0)", x.least(10000, 0), BEYOND);
        due("least(9999, 2)", x.least(9999, 2), 0);
        // By EVENTS that are KNOWN TODAY, and no others.
        x.event(1, 0, 1);
        due("least(10, -1)", x.least(10, -1), 3);
        x.today(1);
        x.back(0);
        due("least(10, -1)", x.least(10, -1), 0);
        due("end(0) is not hurried", x.end(0), 10);
        leastOfAll();
    }

    private static void leastOfAll() {
        WhoseDelay x = with(4, 9, 9, 9, 9, 9);
        for (int i = 0; i < 5; i++) {
            x.hurry(i, 2, i == 4 ? 999 : 100 + i);
            if (i > 0) {
                x.link(i - 1, i, 0);
            }
        }
        due("least(35, -1)", x.least(35, -1), 2 * (100 + 101 + 102 + 103 + 999));
        due("least(34, -1)", x.least(34, -1), NONE);
        due("least(37, -1)", x.least(37, -1), 2 * (100 + 101 + 102 + 103));
        due("least(37, 4)", x.least(37, 4), 0);
        due("least(38, -1)", x.least(38, -1), 2 * (100 + 101 + 102) + 103);
        due("least(38, 3)", x.least(38, 3), 1);
    }

    private static void proves() {
        promise = 30;
        WhoseDelay x = with(4, 5, 5);
        x.link(0, 1, 0);
        x.hurry(0, 2, 3);
        x.hurry(1, 1, 4);
        due("proves(0, 10, 0)", x.proves(0, 10, 0), NONE);
        due("proves(4, 10, 0)", x.proves(4, 10, 0), BEYOND);
        due("proves(-1, 10, 0)", x.proves(-1, 10, 0), BEYOND);
        due("proves(0, -1, 0)", x.proves(0, -1, 0), BEYOND);
        due("proves(0, 10000, 0)", x.proves(0, 10000, 0), BEYOND);
        due("proves(0, 10, -1)", x.proves(0, 10, -1), BEYOND);
        x.sheet(0, 8, 2);
        due("proves(0, 10, 0)", x.proves(0, 10, 0), -1);
        due("proves(0, 9, MAX)", x.proves(0, 9, MAX), 100);
        x.put(0, 0, 2);
        due("proves(0, 8, 6)", x.proves(0, 8, 6), -1);
        due("proves(0, 8, 5)", x.proves(0, 8, 5), 101);
        due("proves(0, 7, 5): the day first", x.proves(0, 7, 5), 100);
        x.put(0, 1, 1);
        due("proves(0, 7, 10)", x.proves(0, 7, 10), -1);
        x.put(0, 1, 2);
        due("proves(0, 7, 99)", x.proves(0, 7, 99), 1);
        x.put(0, 0, 3);
        due("proves(0, 7, 99)", x.proves(0, 7, 99), 0);
        x.put(0, 0, -1);
        due("proves(0, 7, 99)", x.proves(0, 7, 99), 0);
        x.put(0, 0, 256);
        x.put(0, 1, 257);
        due("proves(0, 9, 4): just the lowest bits", x.proves(0, 9, 4), -1);
        x.sheet(0, 32, 1);
        due("proves(0, 9, 4) with too few", x.proves(0, 9, 4), 1);
        x.put(0, 0, 9);
        due("proves(0, 9, 4) with too few, the first wrong", x.proves(0, 9, 4), 0);
        x.sheet(0, 16, 3);
        due("proves(0, 9, 4) with too many", x.proves(0, 9, 4), 2);
        x.put(0, 1, 9);
        due("proves(0, 9, 4) with too many, one ahead wrong", x.proves(0, 9, 4), 1);
        x.sheet(0, 16, 0);
        due("proves(0, 9, 4) with none", x.proves(0, 9, 4), 0);
        x.sheet(0, 16, 2);
        due("proves(0, 0, 0)", x.proves(0, 0, 0), 100);
        x.event(0, 0, 1);
        due("proves(0, 10, 0) with an EVENT", x.proves(0, 10, 0), 100);
        due("proves(0, 11, 0) with an EVENT", x.proves(0, 11, 0), -1);
    }

    // ---- voices, sheets, images

    private static WhoseDelay speakers() {
        WhoseDelay x = new WhoseDelay();
        for (int kind = 0; kind < 6; kind++) {
            x.work(kind, 10 * kind / 2 + 3);
        }
        x.edit(0, 40);
        return x;
    }

    private static void voice() {
        promise = 31;
        WhoseDelay x = speakers();
        // A WORK, n 0, l 3 (told first, not 40): 103; 206; 100; 206 ^ 100.
        int[] work = {103, 206, 100, 206 ^ 100};
        // A DIGGING, n 1, l 8: 108; 216 - 99; 99; 117 ^ 99.
        int[] digging = {108, 117, 99, 117 ^ 99};
        // A BUILDING, n 2, l 13: 115; 230; 98; of 101: 232 ^ 99.
        int[] building = {115, 230, 98, 232 ^ 99};
        // A FITTING, n 3, l 18: hold 82 + 18 + 3; 206; 97 * 3; of 101: 208 ^ 98 * 3.
        int[] fitting = {103, 206, 291, 208 ^ 294};
        // A PAPER, n 4, l 23: 123; 246; 96; 96 - (246 ^ 96).
        int[] paper = {123, 246, 96, 96 - (246 ^ 96)};
        // A CURING, n 5, l 28: 133; 266 ^ 133; 100; of 101: 268 ^ 134 ^ 101.
        int[] curing = {133, 266 ^ 133, 100, 268 ^ 134 ^ 101};
        int[][] all = {work, digging, building, fitting, paper, curing};
        for (int w = 0; w < 6; w++) {
            for (int act = 0; act < 4; act++) {
                due("voice(" + w + ", " + act + ", 100)", x.voice(w, act, 100), all[w][act]);
            }
        }
        due("voice(0, 0, MAX) goes round", x.voice(0, 0, MAX), MIN + 2);
        due("voice(0, 1, MAX) goes round", x.voice(0, 1, MAX), 4);
        due("voice(2, 2, MIN) goes round", x.voice(2, 2, MIN), MAX - 1);
        due("voice(6, 0, 0)", x.voice(6, 0, 0), BEYOND);
        due("voice(-1, 0, 0)", x.voice(-1, 0, 0), BEYOND);
        due("voice(0, 4, 0)", x.voice(0, 4, 0), BEYOND);
        due("voice(0, -1, 0)", x.voice(0, -1, 0), BEYOND);
        int before = x.found(1);
        due("voice(0, 0, ..) may be any number", x.voice(0, 0, BEYOND - 3), BEYOND);
        due("found(1) counts findings alone", x.found(1), before);
    }

    private static void trace() {
        promise = 32;
        int[][] tells = {
            {13, 11, 10, 12},
            {13, 20, 11, 10, 12, 12},
            {31, 13, 11, 30, 10, 12},
            {31, 13, 11, 41, 30, 10, 40, 12},
            {50, 12, 13, 11, 10, 12},
            {31, 13, 61, 11, 30, 10, 30, 10, 60, 12},
        };
        WhoseDelay x = speakers();
        for (int w = 0; w < 6; w++) {
            x.voice(w, 3, w);
            for (int i = 0; i < tells[w].length; i++) {
                due("trace(" + i + ") of tell of kind " + w, x.trace(i), tells[w][i]);
            }
            due("trace behind all", x.trace(tells[w].length), NONE);
            due("told(9)", x.told(9), tells[w].length);
        }
        due("trace(-1)", x.trace(-1), NONE);
        due("trace(MAX)", x.trace(MAX), NONE);
        x.voice(6, 0, 0);
        due("told(9) after a finding", x.told(9), 10);
        x.voice(3, 0, 0);
        due("told(9)", x.told(9), 3);
        due("trace(0)", x.trace(0), 41);
        due("trace(2)", x.trace(2), 10);
        due("trace(3)", x.trace(3), NONE);
    }

    private static void sheet() {
        promise = 33;
        WhoseDelay x = new WhoseDelay();
        due("sheet(0, 8, 0)", x.sheet(0, 8, 0), 1);
        due("put(0, 0, 1)", x.put(0, 0, 1), BEYOND);
        due("sheet(3, 16, 24)", x.sheet(3, 16, 24), 1);
        due("put(3, 23, 1)", x.put(3, 23, 1), 1);
        due("put(3, 24, 1)", x.put(3, 24, 1), BEYOND);
        due("sheet(4, 8, 1)", x.sheet(4, 8, 1), BEYOND);
        due("sheet(-1, 8, 1)", x.sheet(-1, 8, 1), BEYOND);
        due("sheet(0, 9, 1)", x.sheet(0, 9, 1), BEYOND);
        due("sheet(0, 64, 1)", x.sheet(0, 64, 1), BEYOND);
        due("sheet(0, -8, 1)", x.sheet(0, -8, 1), BEYOND);
        due("sheet(0, 8, 25)", x.sheet(0, 8, 25), BEYOND);
        due("sheet(0, 8, -1)", x.sheet(0, 8, -1), STATE);
        due("sheet(0, 8, MIN)", x.sheet(0, 8, MIN), STATE);
        due("sheet(4, 8, -1)", x.sheet(4, 8, -1), BEYOND);
        due("sheet(0, 9, -1)", x.sheet(0, 9, -1), BEYOND);
        due("put(3, 23, 1)", x.put(3, 23, 1), 1);
        due("sheet(3, 0, -5)", x.sheet(3, 0, -5), 1);
        due("sheet(3, 0, 99)", x.sheet(3, 0, 99), 1);
        due("put(3, 23, 1)", x.put(3, 23, 1), NONE);
        // All numbers are 0 again.
        WhoseDelay y = with(4, 5);
        y.hurry(0, 1, 1);
        y.sheet(0, 8, 1);
        y.put(0, 0, 7);
        due("proves(0, 9, 9)", y.proves(0, 9, 9), 0);
        y.sheet(0, 8, 1);
        due("proves(0, 9, 9)", y.proves(0, 9, 9), -1);
    }

    private static void put() {
        promise = 34;
        WhoseDelay x = with(4, 5);
        x.hurry(0, 2, 1);
        due("put(4, 0, 0)", x.put(4, 0, 0), BEYOND);
        due("put(-1, 0, 0)", x.put(-1, 0, 0), BEYOND);
        due("put(1, 0, 0)", x.put(1, 0, 0), NONE);
        due("put(1, -1, 0)", x.put(1, -1, 0), NONE);
        int[] bits = {8, 16, 32};
        for (int b : bits) {
            x.sheet(1, b, 1);
            due("put(1, -1, 0)", x.put(1, -1, 0), BEYOND);
            due("put(1, 1, 0)", x.put(1, 1, 0), BEYOND);
            due("put(1, 0, 1)", x.put(1, 0, 1), 1);
            due("proves(1, 4, 1)", x.proves(1, 4, 1), -1);
            due("put(1, 0, -1)", x.put(1, 0, -1), 1);
            due("proves(1, 9, 9)", x.proves(1, 9, 9), 0);
            due("put(1, 0, 257)", x.put(1, 0, 257), 1);
            due("proves(1, 9, 9) of 257", x.proves(1, 9, 9), b == 8 ? -1 : 0);
            due("put(1, 0, 65538)", x.put(1, 0, 65538), 1);
            due("proves(1, 9, 9) of 65538", x.proves(1, 9, 9), b == 32 ? 0 : -1);
        }
    }

    private static void move() {
        promise = 35;
        WhoseDelay x = with(4, 9, 9, 9, 9);
        for (int i = 0; i < 4; i++) {
            x.hurry(i, 2, new int[] {1, 10, 100, 300}[i]);
        }
        x.sheet(0, 8, 4);
        for (int i = 0; i < 4; i++) {
            x.put(0, i, new int[] {2, 1, 0, 2}[i]);
        }
        due("sum of 2 1 0 2", sum(x, 0), 612);
        due("move(0, 0, 0, 1, 3) as they were", x.move(0, 0, 0, 1, 3), 3);
        due("sum of 2 2 1 0", sum(x, 0), 122);
        due("move(0, 1, 0, 0, 3) as they were", x.move(0, 1, 0, 0, 3), 3);
        due("sum of 2 1 0 0", sum(x, 0), 12);
        x.sheet(1, 8, 4);
        due("move(0, 0, 1, 2, 2)", x.move(0, 0, 1, 2, 2), 2);
        due("sum of 0 0 2 1", sum(x, 1), 500);
        due("sum of 2 1 0 0", sum(x, 0), 12);
        due("move(0, 4, 1, 4, 0)", x.move(0, 4, 1, 4, 0), 0);
        due("move(0, 5, 1, 0, 0)", x.move(0, 5, 1, 0, 0), BEYOND);
        due("move(0, 0, 1, 0, 4)", x.move(0, 0, 1, 0, 4), 4);
        due("move(0, 0, 1, 0, 5)", x.move(0, 0, 1, 0, 5), BEYOND);
        due("move(0, 1, 1, 0, 4)", x.move(0, 1, 1, 0, 4), BEYOND);
        due("move(0, 0, 1, 1, 4)", x.move(0, 0, 1, 1, 4), BEYOND);
        due("move(0, 0, 1, 0, -1)", x.move(0, 0, 1, 0, -1), BEYOND);
        due("move(0, -1, 1, 0, 1)", x.move(0, -1, 1, 0, 1), BEYOND);
        due("move(0, 0, 1, -1, 1)", x.move(0, 0, 1, -1, 1), BEYOND);
        due("move(0, MAX, 1, 0, MAX)", x.move(0, MAX, 1, 0, MAX), BEYOND);
        due("move(0, 1, 1, 1, MAX)", x.move(0, 1, 1, 1, MAX), BEYOND);
        due("move(0, MIN, 1, MIN, MIN)", x.move(0, MIN, 1, MIN, MIN), BEYOND);
        x.sheet(2, 16, 4);
        due("move(0, 0, 2, 0, 1)", x.move(0, 0, 2, 0, 1), KIND);
        due("move(2, -1, 0, 0, 1)", x.move(2, -1, 0, 0, 1), KIND);
        due("move(0, 0, 3, 0, 1)", x.move(0, 0, 3, 0, 1), NONE);
        due("move(3, 0, 0, 0, 1)", x.move(3, 0, 0, 0, 1), NONE);
        due("move(3, 0, 3, 0, 0)", x.move(3, 0, 3, 0, 0), NONE);
        due("move(0, 0, 4, 0, 1)", x.move(0, 0, 4, 0, 1), BEYOND);
        due("move(4, 0, 3, 0, 1)", x.move(4, 0, 3, 0, 1), BEYOND);
        due("move(-1, 0, 0, 0, 1)", x.move(-1, 0, 0, 0, 1), BEYOND);
        due("sum of 2 1 0 0", sum(x, 0), 12);
    }

    /** The sum that a SHEET's numbers cost, found through proves. */
    private static int sum(WhoseDelay x, int sheet) {
        int v = 0;
        for (int step = 512; step > 0; step /= 2) {
            if (x.proves(sheet, 9999, v + step - 1) == 101) {
                v += step;
            }
        }
        return v;
    }

    /** All that an image keeps, as one text. */
    private static String all(WhoseDelay x) {
        StringBuilder b = new StringBuilder();
        for (int what = 0; what <= 8; what++) {
            b.append(x.told(what)).append(' ');
        }
        for (int w = 0; w < x.told(0); w++) {
            b.append(x.plan(0, w, 0)).append(' ').append(x.plan(0, w, 1)).append(' ').append(x.as(w, 0)).append(' ').append(x.voice(w, 0, 0)).append(' ');
        }
        for (int e = 0; e < x.told(2); e++) {
            for (int what = 0; what <= 6; what++) {
                b.append(x.of(e, what)).append(' ');
            }
            b.append(x.says(0, e)).append(' ').append(x.says(1, e)).append(' ').append(x.force(1, e)).append(' ');
        }
        for (int day = x.end(x.known(900)); day >= 0 && x.least(day, -1) >= 0; day--) {
            b.append(x.least(day, -1)).append('/').append(x.least(day, 0)).append(' ');
        }
        return b.append(x.claim(2)).append(' ').append(x.claim(5)).toString();
    }

    private static WhoseDelay builtUp() {
        WhoseDelay x = with(1, 4, 5);
        x.work(0, 6);
        x.work(4, 7);
        x.link(0, 1, 3);
        x.link(2, 3, 1);
        x.rain(2, 2, true);
        x.week(63);
        x.today(5);
        x.event(10, 4, 3);
        x.event(2, 2, 3);
        x.notice(1, 3);
        x.today(6);
        x.back(1);
        clauseOf(x, 1, 3, "d*7");
        x.hurry(1, 2, 8);
        feedText(x, "c+");
        return x;
    }

    private static void image() {
        promise = 36;
        WhoseDelay x = builtUp();
        due("restore()", x.restore(), NONE);
        String was = all(x);
        due("image()", x.image(), 1);
        same("after image()", all(x), was);
        change(x);
        x.restore();
        same("after restore()", all(x), was);
        due("clause(0, 0) of the tape that was kept", clauseOf(x, 0, 0, "c"), 1);
        x.today(77);
        due("image()", x.image(), 2);
        x.today(99);
        due("restore()", x.restore(), 77);
        due("image()", x.image(), 3);
        imageOfAll();
    }

    /** What no count tells: each kept thing is made otherwise, and looked at when it is back. */
    private static void imageOfAll() {
        WhoseDelay x = builtUp();
        x.image();
        change(x);
        x.restore();
        due("week(127)", x.week(127), 63);
        due("rain(0, 30, true)", x.rain(0, 30, true), 28);
        due("unlink(0, 1)", x.unlink(0, 1), 3);
        due("unlink(2, 3)", x.unlink(2, 3), 1);
        x.link(1, 0, 5);
        x.link(3, 2, 9);
        x.image();
        String was = all(x);
        x.unlink(3, 2);
        x.unlink(1, 0);
        x.link(0, 1, 3);
        x.link(2, 3, 4);
        x.week(1);
        x.restore();
        same("after the second image", all(x), was);
        due("unlink(3, 2)", x.unlink(3, 2), 9);
        x.link(3, 2, 8);
        x.unlink(1, 0);
        x.calm();
        x.restore();
        due("told(1)", x.told(1), 2);
        due("told(8)", x.told(8), 1);
        due("unlink(3, 2) that was linked otherwise", x.unlink(3, 2), 9);
        x.restore();
        // A tape that is kept, emptied and written anew.
        x.clause(0, 0);
        feedText(x, "1+1");
        x.image();
        x.clause(1, 0);
        feedText(x, "xxx");
        x.restore();
        due("clause(1, 0)", x.clause(1, 0), 1);
        due("says(1, 0)", x.says(1, 0), 2);
        x.restore();
        // Rain up to the last day that can have some.
        WhoseDelay y = with(1, 1);
        for (int day = 0; day < 900; day += 60) {
            y.rain(day, 60, true);
        }
        y.rain(899, 1, false);
        y.image();
        y.rain(899, 1, true);
        due("end(0)", y.end(0), 901);
        y.restore();
        due("end(0)", y.end(0), 900);
        due("told(4)", x.told(4), 1);
        due("says(1, 0)", x.says(1, 0), 21);
    }

    /** Makes everything that an image keeps another thing. */
    private static void change(WhoseDelay x) {
        x.work(5, 40);
        x.edit(0, 9);
        x.unlink(0, 1);
        x.link(1, 0, 5);
        x.unlink(2, 3);
        x.link(3, 2, 2);
        x.rain(0, 30, true);
        x.rain(2, 1, false);
        x.week(3);
        x.notice(0, 5);
        x.today(200);
        x.back(0);
        x.event(1, 150, 30);
        x.clause(0, 0);
        clauseOf(x, 1, 0, "1");
        x.calm();
        x.hurry(0, 1, 9);
        feedText(x, "!!!");
    }

    private static void same(String when, String got, String want) {
        asked++;
        if (!got.equals(want)) {
            wrong++;
            System.out.println("promise " + promise + ": " + when + " all is " + got + ", due is " + want);
        }
    }

    private static void restore() {
        promise = 37;
        WhoseDelay x = builtUp();
        String was = all(x);
        x.image();
        x.sheet(0, 8, 1);
        change(x);
        x.voice(0, 3, 1);
        int beyond = x.found(1);
        x.end(-1);
        due("restore()", x.restore(), 6);
        same("after restore()", all(x), was);
        x.voice(0, 3, 1);
        due("restore()", x.restore(), 6);
        due("told(9): THE TRACE is not kept", x.told(9), 6);
        due("put(0, 0, 1): SHEETS are not kept", x.put(0, 0, 1), 1);
        due("found(1) is not kept", x.found(1), beyond + 1);
        change(x);
        due("restore() again", x.restore(), 6);
        same("after restore() again", all(x), was);
        // The image stays as it was, whatever comes to what was restored.
        change(x);
        x.restore();
        same("after restore() a third time", all(x), was);
        // An image of nothing.
        WhoseDelay y = new WhoseDelay();
        due("image()", y.image(), 1);
        y.today(5);
        y.work(0, 1);
        due("restore()", y.restore(), 0);
        due("told(0)", y.told(0), 0);
        due("work(4, 2)", y.work(4, 2), 0);
        due("end(0)", y.end(0), 2);
    }

    private static void told() {
        promise = 38;
        WhoseDelay x = builtUp();
        int[] dues = {4, 2, 2, 1, 1, 6, 2, 2, 1, 0};
        for (int what = 0; what <= 9; what++) {
            due("told(" + what + ")", x.told(what), dues[what]);
        }
        x.voice(0, 0, 0);
        due("told(9)", x.told(9), 1);
        due("told(10)", x.told(10), BEYOND);
        due("told(-1)", x.told(-1), BEYOND);
        x.rain(0, 10, false);
        due("told(6)", x.told(6), 0);
    }

    private static void found() {
        promise = 39;
        WhoseDelay x = with(5, 5);
        x.end(1);
        x.trace(0);
        x.trace(1);
        x.sheet(0, 8, -1);
        x.as(0, 1);
        x.as(0, 3);
        x.as(0, 4);
        for (int i = 0; i < 16; i++) {
            x.work(0, 1);
        }
        int[] dues = {1, 2, 1, 1, 3};
        for (int k = 1; k <= 5; k++) {
            due("found(" + k + ")", x.found(k), dues[k - 1]);
        }
        due("found(0)", x.found(0), BEYOND);
        due("found(6)", x.found(6), BEYOND);
        due("found(MIN)", x.found(MIN), BEYOND);
        due("found(-1000001)", x.found(BEYOND), BEYOND);
        due("found(1) counts these too", x.found(1), 5);
        // A FAULT is no finding.
        x.clause(0, 0);
        due("found(1)", x.found(1), 5);
    }
}
