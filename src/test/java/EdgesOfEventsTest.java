/** Promises 10 to 21: events, plans, and whose it was. */
public final class EdgesOfEventsTest extends Edges {
    public static void main(String[] args) throws Exception {
        run(EdgesOfEventsTest.class);
    }

    // ---- promises 10 to 17: events, plans

    @Says(in = "Promise 10", text = "An EVENT: its number")
    static void eventAnswersItsNumber() {
        WhoseDelay x = with(4, 5);
        x.today(30);
        for (int e = 0; e < 20; e++) {
            due("event(0, " + (30 - e) + ", " + (e + 1) + ")", x.event(0, 30 - e, e + 1), e);
        }
        for (int e = 0; e < 20; e++) {
            due("of(" + e + ", 3)", x.of(e, 3), e + 1);
        }
    }

    @Says(in = "Promise 10", text = "what: 10 times the WORK, and the CAUSE")
    static void eventOfWorkAndCause() {
        WhoseDelay x = many(16, 4, 1);
        int[] whats = {0, 3, 10, 93, 100, 150, 153};
        for (int e = 0; e < whats.length; e++) {
            x.event(whats[e], 0, 5);
            due("of(" + e + ", 0)", x.of(e, 0), whats[e] / 10);
            due("of(" + e + ", 1)", x.of(e, 1), whats[e] % 10);
            due("plan of its WORK", x.plan(1 << e, whats[e] / 10, 1), 6);
        }
    }

    @Says(in = "Promise 10", text = "BEYOND: no such WORK, CAUSE, DAY, days")
    static void eventBeyond() {
        WhoseDelay x = with(4, 5, 5);
        x.today(9);
        allAre("event of no such WORK", BEYOND, x.event(20, 0, 1), x.event(160, 0, 1), x.event(-10, 0, 1), x.event(MAX - 7, 0, 1), x.event(MIN, 0, 1));
        allAre("event of no such CAUSE", BEYOND, x.event(4, 0, 1), x.event(9, 0, 1), x.event(14, 0, 1), x.event(19, 0, 1), x.event(-1, 0, 1), x.event(-7, 0, 1));
        allAre("event of no such DAY", BEYOND, x.event(0, -1, 1), x.event(0, 10, 1), x.event(0, MIN, 1), x.event(0, MAX, 1));
        allAre("event of no such days", BEYOND, x.event(0, 0, 0), x.event(0, 0, 31), x.event(0, 0, -1), x.event(0, 0, MIN), x.event(0, 0, MAX));
        due("told(2)", x.told(2), 0);
        due("event(0, 0, 1) without WORKS", new WhoseDelay().event(0, 0, 1), BEYOND);
    }

    @Says(in = "Promise 10", text = "FULL")
    static void eventFull() {
        WhoseDelay x = events(19);
        due("the 20th", x.event(0, 0, 1), 19);
        due("a 21st", x.event(0, 0, 1), FULL);
        due("told(2)", x.told(2), 20);
        due("end of all", x.end(0xFFFFF), 25);
    }

    @Says(in = "Promise 11", text = "An EVENT has a NOTICE on a day: 1")
    static void noticeAnswers1() {
        WhoseDelay x = events(20);
        due("notice(0, 0)", x.notice(0, 0), 1);
        due("notice(19, 900)", x.notice(19, 900), 1);
        due("of(0, 4)", x.of(0, 4), 0);
        due("of(19, 4)", x.of(19, 4), 900);
        due("of(1, 4)", x.of(1, 4), -1);
    }

    @Says(in = "Promise 11", text = "BEYOND: no such EVENT, day")
    static void noticeBeyond() {
        WhoseDelay x = with(4, 5);
        x.today(9);
        x.event(0, 5, 1);
        allAre("notice of no such EVENT", BEYOND, x.notice(1, 9), x.notice(-1, 9), x.notice(20, 9), x.notice(MIN, 9), x.notice(MAX, 9));
        allAre("notice on no such day", BEYOND, x.notice(0, 4), x.notice(0, 10), x.notice(0, -1), x.notice(0, MIN), x.notice(0, MAX));
        due("of(0, 4)", x.of(0, 4), -1);
        x.today(10);
        due("notice(0, 10) a day later", x.notice(0, 10), 1);
    }

    @Says(in = "Promise 11", text = "STATE: it has one")
    static void noticeState() {
        WhoseDelay x = events(2);
        x.notice(0, 0);
        due("notice(0, 0), it has one on day 0", x.notice(0, 0), STATE);
        due("notice(0, 900)", x.notice(0, 900), STATE);
        due("of(0, 4)", x.of(0, 4), 0);
        due("notice(1, 900) of another", x.notice(1, 900), 1);
    }

    @Says(in = "Promise 12", text = "An EVENT is TAKEN BACK: 1")
    static void backAnswers1() {
        WhoseDelay x = with(4, 5);
        for (int e = 0; e < 20; e++) {
            x.event(0, 0, 1);
        }
        x.today(1);
        due("back(0)", x.back(0), 1);
        due("back(19)", x.back(19), 1);
        due("of(0, 6)", x.of(0, 6), 1);
        due("of(19, 6)", x.of(19, 6), 1);
        due("of(1, 6)", x.of(1, 6), -1);
        due("told(3)", x.told(3), 18);
        due("told(2)", x.told(2), 20);
    }

    @Says(in = "Promise 12", text = "BEYOND")
    static void backBeyond() {
        WhoseDelay x = with(4, 5);
        due("back(0) without EVENTS", x.back(0), BEYOND);
        x.event(0, 0, 1);
        x.today(1);
        allAre("back of no such EVENT", BEYOND, x.back(1), x.back(-1), x.back(20), x.back(MIN), x.back(MAX));
        due("told(3)", x.told(3), 1);
    }

    @Says(in = "Promise 12", text = "STATE: it was, or was told TODAY")
    static void backState() {
        WhoseDelay x = with(4, 5);
        x.event(0, 0, 1);
        due("back(0) on the day 0 it was told", x.back(0), STATE);
        x.today(1);
        due("back(0)", x.back(0), 1);
        due("back(0), it was on the same day", x.back(0), STATE);
        x.today(2);
        due("back(0), it was a day ahead", x.back(0), STATE);
        due("of(0, 6)", x.of(0, 6), 1);
        x.event(0, 0, 1);
        due("back(1) on the day it was told", x.back(1), STATE);
    }

    @Says(in = "Promise 13", text = "Of an EVENT: 0 WORK, 1 CAUSE, 2 DAY, 3 days, 4 the day of its NOTICE (-1), 5 when it was told, 6 when it was TAKEN BACK (-1)")
    static void ofAnEvent() {
        WhoseDelay x = many(16, 4, 5);
        x.event(0, 0, 1);
        x.today(899);
        x.event(153, 800, 30);
        int[] least = {0, 0, 0, 1, -1, 0, -1};
        int[] most = {15, 3, 800, 30, -1, 899, -1};
        for (int what = 0; what <= 6; what++) {
            due("of(0, " + what + ")", x.of(0, what), least[what]);
            due("of(1, " + what + ")", x.of(1, what), most[what]);
        }
        x.notice(0, 0);
        x.notice(1, 899);
        x.today(900);
        x.back(1);
        due("of(0, 4)", x.of(0, 4), 0);
        due("of(1, 4)", x.of(1, 4), 899);
        due("of(1, 5)", x.of(1, 5), 899);
        due("of(1, 6)", x.of(1, 6), 900);
    }

    @Says(in = "Promise 13", text = "BEYOND")
    static void ofBeyond() {
        WhoseDelay x = events(1);
        allAre("of no such EVENT", BEYOND, x.of(1, 0), x.of(-1, 0), x.of(20, 0), x.of(MIN, 0), x.of(MAX, 0));
        allAre("of no such what", BEYOND, x.of(0, 7), x.of(0, -1), x.of(0, MIN), x.of(0, MAX));
    }

    @Says(in = "Promise 14", text = "EVENTS KNOWN on a day (0 .. 900), as bits")
    static void knownOnADay() {
        WhoseDelay x = with(4, 5);
        due("known(0) without EVENTS", x.known(0), 0);
        x.event(0, 0, 1);
        due("known(0), told on day 0", x.known(0), 1);
        due("known(900), behind TODAY", x.known(900), 1);
        x.today(900);
        x.event(0, 0, 1);
        x.back(0);
        due("known(0)", x.known(0), 1);
        due("known(899)", x.known(899), 1);
        due("known(900)", x.known(900), 2);
    }

    @Says(in = "Promise 14", text = "BEYOND")
    static void knownBeyond() {
        WhoseDelay x = events(1);
        allAre("known on no such day", BEYOND, x.known(-1), x.known(901), x.known(MIN), x.known(MAX));
    }

    @Says(in = "Promise 15", text = "Of a WORK for a set of EVENTS: 0 READY, 1 END, 2 FLOAT")
    static void planOfAWork() {
        WhoseDelay x = with(4, 5, 7, 3);
        x.link(0, 2, 1);
        x.event(0, 0, 4);
        int[][] none = {{0, 5, 0}, {0, 7, 2}, {6, 9, 0}};
        int[][] all = {{0, 9, 0}, {0, 7, 6}, {10, 13, 0}};
        for (int w = 0; w < 3; w++) {
            for (int what = 0; what < 3; what++) {
                due("plan(0, " + w + ", " + what + ")", x.plan(0, w, what), none[w][what]);
                due("plan(1, " + w + ", " + what + ")", x.plan(1, w, what), all[w][what]);
            }
        }
    }

    @Says(in = "Promise 15", text = "BEYOND: no such WORK, what, or the set has others than EVENTS")
    static void planBeyond() {
        WhoseDelay x = events(20);
        allAre("plan of no such WORK", BEYOND, x.plan(0, 1, 0), x.plan(0, -1, 0), x.plan(0, 16, 0), x.plan(0, MIN, 0), x.plan(0, MAX, 0));
        allAre("plan of no such what", BEYOND, x.plan(0, 0, -1), x.plan(0, 0, 3), x.plan(0, 0, MIN), x.plan(0, 0, MAX));
        allAre("plan of a set with others", BEYOND, x.plan(1 << 20, 0, 0), x.plan(-1, 0, 0), x.plan(MIN, 0, 0), x.plan(MAX, 0, 0), x.plan(0x1FFFFF, 0, 0));
        due("plan of all", x.plan(0xFFFFF, 0, 1), 25);
        allAre("plan of a set when there are none", BEYOND, with(4, 5).plan(1, 0, 0), with(4, 5).plan(MIN, 0, 0));
    }

    @Says(in = "Promise 16", text = "THE END of a set of EVENTS")
    static void endOfSets() {
        WhoseDelay x = with(4, 5);
        for (int e = 0; e < 20; e++) {
            x.event(0, 0, 1 + e);
        }
        int all = 5;
        for (int e = 0; e < 20; e++) {
            due("end of EVENT " + e, x.end(1 << e), 6 + e);
            all += 1 + e;
        }
        due("end(0)", x.end(0), 5);
        due("end of all", x.end(0xFFFFF), all);
    }

    @Says(in = "Promise 16", text = "BEYOND")
    static void endBeyond() {
        allAre("end of others than EVENTS", BEYOND, with(4, 5).end(1), with(4, 5).end(-1), with(4, 5).end(MIN), new WhoseDelay().end(1));
        WhoseDelay x = events(19);
        due("end of 19", x.end(0x7FFFF), 24);
        allAre("end of a 20th", BEYOND, x.end(1 << 19), x.end(0xFFFFF), x.end(1 << 30), x.end(MAX), x.end(MIN));
    }

    @Says(in = "Promise 17", text = "The i-th WORK of THE CHAIN for a set (0: the last one)")
    static void chainOfAll() {
        WhoseDelay x = inRow(many(16, 4, 1));
        for (int i = 0; i < 16; i++) {
            due("chain(0, " + i + ")", x.chain(0, i), 15 - i);
        }
        x.event(30, 0, 1);
        due("chain(1, 15)", x.chain(1, 15), 0);
    }

    @Says(in = "Promise 17", text = "BEYOND: i is below 0, too")
    static void chainBeyond() {
        WhoseDelay x = events(1);
        allAre("chain of no such place", BEYOND, x.chain(0, -1), x.chain(1, -1), x.chain(0, MIN));
        allAre("chain of no such set", BEYOND, x.chain(2, 0), x.chain(-1, 0), x.chain(MIN, 0), x.chain(MAX, 0));
    }

    @Says(in = "Promise 17", text = "NONE: it has not so many")
    static void chainNone() {
        WhoseDelay x = inRow(many(16, 4, 1));
        allAre("chain behind 16", NONE, x.chain(0, 16), x.chain(0, 17), x.chain(0, MAX));
        allAre("chain behind one", NONE, with(4, 1).chain(0, 1), with(4, 1).chain(0, 2), with(4, 1).chain(0, MAX));
        allAre("chain without WORKS", NONE, new WhoseDelay().chain(0, 0), new WhoseDelay().chain(0, MAX));
    }

    // ---- promises 18 to 21: whose it was

    /** EVENT 0 told on day 3, TAKEN BACK on day 6; EVENT 1 told on day 5. */
    private static WhoseDelay comeAndGone() {
        WhoseDelay x = with(4, 10);
        x.today(3);
        x.event(0, 1, 4);
        x.today(5);
        x.event(1, 0, 2);
        x.today(6);
        x.back(0);
        return x;
    }

    @Says(in = "Promise 18", text = "ONE AT A TIME of an EVENT, KNOWN on k")
    static void oneKnownOnK() {
        WhoseDelay x = comeAndGone();
        due("one(0, 3)", x.one(0, 3), 4);
        due("one(0, 5)", x.one(0, 5), 4);
        due("one(1, 5)", x.one(1, 5), 2);
        due("one(1, 900)", x.one(1, 900), 2);
        WhoseDelay y = with(4, 10, 10);
        y.event(0, 0, 3);
        y.today(1);
        y.event(10, 0, 5);
        due("one(0, 0)", y.one(0, 0), 3);
        due("one(1, 1)", y.one(1, 1), 2);
        y.today(2);
        y.back(0);
        due("one(1, 2), with none ahead", y.one(1, 2), 5);
        due("one(1, 1), as it was KNOWN then", y.one(1, 1), 2);
    }

    @Says(in = "Promise 18", text = "BEYOND: no such EVENT, k")
    static void oneBeyond() {
        WhoseDelay x = events(1);
        allAre("one of no such EVENT", BEYOND, x.one(1, 900), x.one(-1, 900), x.one(20, 900), x.one(MIN, 900), x.one(MAX, 900));
        allAre("one on no such day", BEYOND, x.one(0, -1), x.one(0, 901), x.one(0, MIN), x.one(0, MAX));
    }

    @Says(in = "Promise 18", text = "NONE: it isn't KNOWN then")
    static void oneNone() {
        WhoseDelay x = comeAndGone();
        allAre("one(0, ..) ahead of it and behind it", NONE, x.one(0, 0), x.one(0, 2), x.one(0, 6), x.one(0, 900));
        allAre("one(1, ..) ahead of it", NONE, x.one(1, 0), x.one(1, 4));
    }

    @Says(in = "Promise 19", text = "WITHOUT of an EVENT, KNOWN on k")
    static void withoutKnownOnK() {
        WhoseDelay x = with(4, 10, 10);
        x.event(0, 0, 3);
        x.today(1);
        x.event(10, 0, 5);
        due("without(0, 0)", x.without(0, 0), 3);
        due("without(0, 1)", x.without(0, 1), 0);
        due("without(1, 1)", x.without(1, 1), 2);
        x.today(2);
        x.back(0);
        due("without(1, 2)", x.without(1, 2), 5);
        due("without(1, 900)", x.without(1, 900), 5);
    }

    @Says(in = "Promise 19", text = "BEYOND")
    static void withoutBeyond() {
        WhoseDelay x = events(1);
        allAre("without no such EVENT", BEYOND, x.without(1, 900), x.without(-1, 900), x.without(20, 900), x.without(MIN, 900), x.without(MAX, 900));
        allAre("without on no such day", BEYOND, x.without(0, -1), x.without(0, 901), x.without(0, MIN), x.without(0, MAX));
    }

    @Says(in = "Promise 19", text = "NONE")
    static void withoutNone() {
        WhoseDelay x = comeAndGone();
        allAre("without(0, ..) ahead of it and behind it", NONE, x.without(0, 0), x.without(0, 2), x.without(0, 6), x.without(0, 900));
        allAre("without(1, ..) ahead of it", NONE, x.without(1, 0), x.without(1, 4));
        due("without(0, 3)", x.without(0, 3), 4);
        due("without(0, 5)", x.without(0, 5), 4);
    }

    @Says(in = "Promise 20", text = "BUT FOR a CAUSE, KNOWN on k")
    static void butForKnownOnK() {
        WhoseDelay x = comeAndGone();
        int[] owner = {0, 0, 0, 4, 4, 4, 0};
        int[] builder = {0, 0, 0, 0, 0, 2, 2};
        for (int k = 0; k <= 6; k++) {
            due("butFor(0, " + k + ")", x.butFor(0, k), owner[k]);
            due("butFor(1, " + k + ")", x.butFor(1, k), builder[k]);
            due("butFor(3, " + k + ")", x.butFor(3, k), 0);
        }
        due("butFor(1, 900)", x.butFor(1, 900), 2);
    }

    @Says(in = "Promise 20", text = "BEYOND")
    static void butForBeyond() {
        WhoseDelay x = events(1);
        allAre("butFor no such CAUSE", BEYOND, x.butFor(-1, 0), x.butFor(4, 0), x.butFor(MIN, 0), x.butFor(MAX, 0));
        allAre("butFor on no such day", BEYOND, x.butFor(0, -1), x.butFor(0, 901), x.butFor(0, MIN), x.butFor(0, MAX));
    }

    @Says(in = "Promise 21", text = "WINDOWS of n days, by EVENTS KNOWN on k: of WINDOW w (0 .. 179) what is lost in it (cause -1), or the part of a CAUSE")
    static void windowOfKnown() {
        WhoseDelay x = comeAndGone();
        // On day 5 both are KNOWN: 6 days, 4 of the OWNER and 2 of the BUILDER.
        int[] k = {2, 3, 5, 6, 900};
        int[] lost = {0, 4, 6, 2, 2};
        int[] owner = {0, 4, 4, 0, 0};
        int[] builder = {0, 0, 2, 2, 2};
        for (int i = 0; i < 5; i++) {
            due("window(5, 0, -1, " + k[i] + ")", x.window(5, 0, -1, k[i]), lost[i]);
            due("window(5, 0, 0, " + k[i] + ")", x.window(5, 0, 0, k[i]), owner[i]);
            due("window(5, 0, 1, " + k[i] + ")", x.window(5, 0, 1, k[i]), builder[i]);
            due("window(5, 0, 3, " + k[i] + ")", x.window(5, 0, 3, k[i]), 0);
        }
        x.today(899);
        x.event(3, 895, 7);
        x.event(3, 899, 1);
        due("window(5, 179, -1, 900), days 895 .. 899", x.window(5, 179, -1, 900), 8);
        due("window(5, 179, 3, 900)", x.window(5, 179, 3, 900), 8);
        due("window(5, 178, -1, 900), days 890 .. 894", x.window(5, 178, -1, 900), 0);
        due("window(100, 179, -1, 900)", x.window(100, 179, -1, 900), 0);
    }

    @Says(in = "Promise 21", text = "BEYOND")
    static void windowBeyond() {
        WhoseDelay x = events(1);
        allAre("window of no such n", BEYOND, x.window(4, 0, -1, 0), x.window(101, 0, -1, 0), x.window(0, 0, -1, 0), x.window(-5, 0, -1, 0), x.window(MIN, 0, -1, 0), x.window(MAX, 0, -1, 0));
        allAre("window of no such w", BEYOND, x.window(5, -1, -1, 0), x.window(5, 180, -1, 0), x.window(100, 180, -1, 0), x.window(5, MIN, -1, 0), x.window(5, MAX, -1, 0));
        allAre("window of no such CAUSE", BEYOND, x.window(5, 0, -2, 0), x.window(5, 0, 4, 0), x.window(5, 0, MIN, 0), x.window(5, 0, MAX, 0));
        allAre("window on no such day", BEYOND, x.window(5, 0, -1, -1), x.window(5, 0, -1, 901), x.window(5, 0, -1, MIN), x.window(5, 0, -1, MAX));
    }
}
