/** The terms but the contract's: days and works, events, whose it was, hurry, voices, sheets. */
public final class EdgesOfTermsTest extends Edges {
    public static void main(String[] args) throws Exception {
        run(EdgesOfTermsTest.class);
    }

    // ---- term 1: days and works

    @Says(in = "Term 1", text = "DAYS are 0, 1, ..; TODAY is one of 0 .. 900 (0 at first)")
    static void todayIsOneOf0To900() {
        WhoseDelay x = with(4, 5);
        due("told(5) at first", x.told(5), 0);
        due("event on day 0 at first", x.event(0, 0, 1), 0);
        due("event on day 1 at first", x.event(0, 1, 1), BEYOND);
        due("today(901)", x.today(901), BEYOND);
        due("today(900)", x.today(900), 0);
        due("told(5)", x.told(5), 900);
        due("event on day 900", x.event(0, 900, 1), 1);
        due("event on day 901", x.event(0, 901, 1), BEYOND);
    }

    @Says(in = "Term 1", text = "THE WEEK is a set of 1 .. 7 of its days (1 .. 127; 31 at first)")
    static void weekIsASetOf1To7Days() {
        WhoseDelay x = with(0, 5, 6);
        due("5 days of the first WEEK", x.plan(0, 0, 1), 5);
        due("6 days of the first WEEK", x.plan(0, 1, 1), 8);
        due("week(0)", x.week(0), BEYOND);
        due("week(128)", x.week(128), BEYOND);
        due("week(1), 31 being at first", x.week(1), 31);
        due("week(127)", x.week(127), 1);
        due("6 days of a WEEK of 7", x.plan(0, 1, 1), 6);
    }

    @Says(in = "Term 1", text = "day d is a WORKING one if d modulo 7 is in it")
    static void weekGoesRound() {
        for (int kind = 0; kind < 2; kind++) {
            for (int d = 0; d < 7; d++) {
                WhoseDelay x = with(kind, 1, 2);
                x.week(1 << d);
                due("a day of a WEEK of day " + d, x.plan(0, 0, 1), d + 1);
                due("two days of a WEEK of day " + d, x.plan(0, 1, 1), d + 8);
                x.week(127 - (1 << d));
                due("a day of a WEEK without day " + d, x.plan(0, 0, 1), d == 0 ? 2 : 1);
                due("two days of a WEEK without day " + d, x.plan(0, 1, 1), d < 2 ? 3 : 2);
            }
        }
        // 40 days, one a week, four times: each begins on the first day 0 of a week behind the one ahead.
        for (int kind = 0; kind < 2; kind++) {
            WhoseDelay x = inRow(many(4, kind, 40));
            x.week(1);
            int[] ends = {274, 554, 834, 1114};
            for (int w = 0; w < 4; w++) {
                due("plan(0, " + w + ", 1) of kind " + kind, x.plan(0, w, 1), ends[w]);
            }
        }
    }

    @Says(in = "Term 1", text = "RAIN falls on days 0 .. 899 that are told (none at first)")
    static void rainFallsOnDays0To899() {
        WhoseDelay x = with(1, 1);
        due("told(6) at first", x.told(6), 0);
        due("a DIGGING of a day without RAIN", x.end(0), 1);
        x.week(127);
        due("rain(0, 1, true)", x.rain(0, 1, true), 1);
        due("a DIGGING of a day with RAIN on day 0", x.end(0), 2);
        for (int day = 0; day < 900; day += 60) {
            x.rain(day, 60, true);
        }
        due("told(6) of all", x.told(6), 900);
        due("a DIGGING of a day with RAIN on all days", x.end(0), 901);
        due("rain(900, 1, true)", x.rain(900, 1, true), BEYOND);
        due("rain(899, 1, false)", x.rain(899, 1, false), 1);
        due("a DIGGING of a day with RAIN on all days but the last", x.end(0), 900);
        x.edit(0, 2);
        due("a DIGGING of two days with RAIN on all days but the last", x.end(0), 901);
        x.rain(898, 1, false);
        due("a DIGGING of two days with RAIN on all days but two", x.end(0), 900);
        x.rain(899, 1, true);
        x.edit(0, 1);
        due("a DIGGING of a day with RAIN on all days but the last but one", x.end(0), 899);
    }

    @Says(in = "Term 1", text = "WORKS 0, 1, .. (at most 16)")
    static void atMost16Works() {
        WhoseDelay x = new WhoseDelay();
        for (int w = 0; w < 16; w++) {
            due("work(0, 1)", x.work(0, 1), w);
        }
        due("work(0, 1) when there are 16", x.work(0, 1), FULL);
        due("as(15, 0)", x.as(15, 0), 1);
        due("as(16, 0)", x.as(16, 0), BEYOND);
    }

    @Says(in = "Term 1", text = "are of KINDS: 0 WORK, 1 DIGGING under WORK, 2 BUILDING under WORK, 3 FITTING under BUILDING, 4 PAPER under WORK, 5 CURING under BUILDING")
    static void kindsAre0To5() {
        int[][] above = {{0}, {0, 1}, {0, 2}, {0, 2, 3}, {0, 4}, {0, 2, 5}};
        for (int kind = 0; kind < 6; kind++) {
            WhoseDelay x = with(kind, 7);
            due("told(0)", x.told(0), 1);
            int of = 0;
            for (int other = 0; other < 6; other++) {
                of += x.as(0, other) == 7 ? 1 << other : 0;
            }
            int want = 0;
            for (int a : above[kind]) {
                want |= 1 << a;
            }
            due("the kinds that one of kind " + kind + " is of", of, want);
        }
        due("work(-1, 7)", new WhoseDelay().work(-1, 7), BEYOND);
        due("work(6, 7)", new WhoseDelay().work(6, 7), BEYOND);
    }

    @Says(in = "Term 1", text = "each is LONG (1 .. 40 days)")
    static void eachIsLong1To40() {
        WhoseDelay x = new WhoseDelay();
        due("work(4, 0)", x.work(4, 0), BEYOND);
        due("work(4, 41)", x.work(4, 41), BEYOND);
        due("work(4, 1)", x.work(4, 1), 0);
        due("work(4, 40)", x.work(4, 40), 1);
        due("plan(0, 0, 1)", x.plan(0, 0, 1), 1);
        due("plan(0, 1, 1)", x.plan(0, 1, 1), 40);
    }

    @Says(in = "Term 1", text = "A WORK GOES ON on WORKING days")
    static void worksGoOnOnWorkingDays() {
        int[] kinds = {0, 2, 3};
        for (int kind : kinds) {
            WhoseDelay x = with(kind, 5, 6, 10, 11);
            x.rain(0, 60, true);
            due("5 days of kind " + kind, x.plan(0, 0, 1), 5);
            due("6 days of kind " + kind, x.plan(0, 1, 1), 8);
            due("10 days of kind " + kind, x.plan(0, 2, 1), 12);
            due("11 days of kind " + kind, x.plan(0, 3, 1), 15);
        }
    }

    @Says(in = "Term 1", text = "a DIGGING one on WORKING days without RAIN")
    static void diggingsGoOnWithoutRain() {
        WhoseDelay x = with(1, 1, 5);
        x.rain(0, 1, true);
        due("a day, RAIN on day 0", x.plan(0, 0, 1), 2);
        due("5 days, RAIN on day 0", x.plan(0, 1, 1), 8);
        x.rain(5, 2, true);
        due("5 days, RAIN also on days that rest", x.plan(0, 1, 1), 8);
        x.rain(7, 1, true);
        due("5 days, RAIN also on day 7", x.plan(0, 1, 1), 9);
        x.rain(9, 1, true);
        due("5 days, RAIN also behind its END", x.plan(0, 1, 1), 9);
        // READY on the last day that can have RAIN, and behind it (day 900 is the fifth of its week).
        WhoseDelay y = many(15, 4, 40);
        y.work(1, 1);
        for (int i = 1; i < 15; i++) {
            y.link(i - 1, i, 20);
        }
        y.link(14, 15, 19);
        due("READY on day 899", y.plan(0, 15, 0), 899);
        due("a day from day 899 on", y.plan(0, 15, 1), 900);
        y.rain(899, 1, true);
        due("a day from day 899 on, with RAIN there", y.plan(0, 15, 1), 901);
        y.edit(15, 2);
        due("two days from day 899 on, with RAIN there", y.plan(0, 15, 1), 904);
        y.unlink(14, 15);
        y.link(14, 15, 20);
        due("READY on day 900", y.plan(0, 15, 0), 900);
        due("two days from day 900 on", y.plan(0, 15, 1), 904);
        y.edit(14, 39);
        due("READY on day 899, by another way", y.plan(0, 15, 0), 899);
        due("two days from day 899 on, by another way", y.plan(0, 15, 1), 904);
    }

    @Says(in = "Term 1", text = "PAPERS and CURINGS on all days")
    static void papersAndCuringsGoOnOnAllDays() {
        for (int kind = 4; kind <= 5; kind++) {
            WhoseDelay x = with(kind, 1, 40);
            x.rain(0, 60, true);
            x.week(1);
            due("a day of kind " + kind, x.plan(0, 0, 1), 1);
            due("40 days of kind " + kind, x.plan(0, 1, 1), 40);
        }
    }

    @Says(in = "Term 1", text = "LINKS, at most 30")
    static void atMost30Links() {
        WhoseDelay x = many(16, 4, 3);
        int links = 0;
        for (int[] link : fullLinks()) {
            links++;
            due("link(" + link[0] + ", " + link[1] + ", " + link[2] + ")", x.link(link[0], link[1], link[2]), links);
        }
        due("link(0, 4, 0) when there are 30", x.link(0, 4, 0), FULL);
        due("told(1)", x.told(1), 30);
        x.unlink(0, 3);
        due("link(0, 4, 0) when there are 29", x.link(0, 4, 0), 30);
    }

    @Says(in = "Term 1", text = "from one WORK to another one, with a LAG (0 .. 20)")
    static void lagIs0To20() {
        WhoseDelay x = with(4, 5, 5, 5);
        due("link(0, 1, -1)", x.link(0, 1, -1), BEYOND);
        due("link(0, 1, 21)", x.link(0, 1, 21), BEYOND);
        due("link(0, 0, 0)", x.link(0, 0, 0), BEYOND);
        due("link(0, 1, 0)", x.link(0, 1, 0), 1);
        due("plan(0, 1, 0) with a LAG of 0", x.plan(0, 1, 0), 5);
        due("link(1, 2, 20)", x.link(1, 2, 20), 2);
        due("plan(0, 2, 0) with a LAG of 20", x.plan(0, 2, 0), 30);
    }

    @Says(in = "Term 1", text = "never in a ring (nor two from one to the same)")
    static void linksAreNeverInARing() {
        WhoseDelay x = inRow(many(16, 4, 1));
        for (int back = 1; back <= 15; back++) {
            due("link(" + back + ", 0, 0), a ring of " + (back + 1), x.link(back, 0, 0), STATE);
        }
        due("link(0, 1, 0), a second one", x.link(0, 1, 0), STATE);
        due("link(0, 1, 7), a second one of another LAG", x.link(0, 1, 7), STATE);
        due("link(0, 15, 0), no ring", x.link(0, 15, 0), 16);
        x.unlink(7, 8);
        due("link(15, 0, 0), still a ring by the other LINK", x.link(15, 0, 0), STATE);
        x.unlink(0, 15);
        due("link(15, 0, 0), none any more", x.link(15, 0, 0), 15);
        due("told(1)", x.told(1), 15);
    }

    @Says(in = "Term 1", text = "A WORK is READY at day 0, or at the greatest of the ENDS of those that have a LINK to it, each and its LAG")
    static void readyAtTheGreatestEnd() {
        WhoseDelay x = with(4, 5, 9, 1);
        due("READY without a LINK", x.plan(0, 2, 0), 0);
        x.link(0, 2, 3);
        due("READY by 5 and 3", x.plan(0, 2, 0), 8);
        x.link(1, 2, 0);
        due("READY by 5 and 3 or 9", x.plan(0, 2, 0), 9);
        x.unlink(0, 2);
        x.link(0, 2, 4);
        due("READY by 5 and 4 or 9", x.plan(0, 2, 0), 9);
        x.unlink(0, 2);
        x.link(0, 2, 5);
        due("READY by 5 and 5 or 9", x.plan(0, 2, 0), 10);
        due("READY of one that has a LINK from it", x.plan(0, 0, 0), 0);
        x.unlink(0, 2);
        x.unlink(1, 2);
        due("READY with no LINK any more", x.plan(0, 2, 0), 0);
        // WORKS that wait for ones of greater numbers.
        int ready = 3 * 15 + 15 * 16 / 2;
        for (int w = 0; w < 16; w++) {
            WhoseDelay y = many(16, 4, 3);
            for (int from = 15; from > 0; from--) {
                y.link(from, from - 1, from);
            }
            due("READY of " + w, y.plan(0, w, 0), ready);
            ready -= 3 + w + 1;
        }
    }

    @Says(in = "Term 1", text = "Its END is the first day behind READY")
    static void endIsTheFirstDayBehind() {
        // READY on a day that rests, on the last working one, on the first.
        int[] ahead = {5, 6, 7, 4};
        int[] ends = {8, 8, 8, 5};
        for (int i = 0; i < 4; i++) {
            WhoseDelay x = with(4, ahead[i]);
            x.work(0, 1);
            x.link(0, 1, 0);
            due("READY on day " + ahead[i], x.plan(0, 1, 0), ahead[i]);
            due("END of a day from " + ahead[i] + " on", x.plan(0, 1, 1), ends[i]);
        }
    }

    @Says(in = "Term 1", text = "as it is LONG, with what is more by EVENTS")
    static void endIsByWhatIsMore() {
        WhoseDelay x = with(0, 40);
        for (int e = 0; e < 20; e++) {
            x.event(0, 0, 30);
        }
        due("END of 40 days", x.end(0), 54);
        due("END of 70 days", x.end(1), 96);
        // 640 days, five a week: 128 weeks, without the rest of the last one.
        due("END of 640 days", x.end(0xFFFFF), 894);
        x.week(64);
        due("END of 640 days, one a week", x.end(0xFFFFF), 640 * 7);
    }

    @Says(in = "Term 1", text = "THE END is the greatest END (0 without WORKS)")
    static void theEndIsTheGreatest() {
        WhoseDelay x = new WhoseDelay();
        due("end(0) without WORKS", x.end(0), 0);
        x.work(4, 3);
        due("end(0) of 3", x.end(0), 3);
        x.work(4, 7);
        due("end(0) of 3, 7", x.end(0), 7);
        x.work(4, 5);
        due("end(0) of 3, 7, 5", x.end(0), 7);
        x.edit(0, 40);
        due("end(0) of 40, 7, 5", x.end(0), 40);
    }

    // ---- term 2: events

    @Says(in = "Term 2", text = "EVENTS, at most 20, numbered as they are told")
    static void atMost20Events() {
        WhoseDelay x = with(4, 5);
        x.today(9);
        for (int e = 0; e < 20; e++) {
            due("event(0, .., 1)", x.event(0, 9 - e % 10, 1), e);
        }
        due("event(0, 0, 1) when there are 20", x.event(0, 0, 1), FULL);
        x.today(10);
        x.back(0);
        due("event(0, 0, 1) when one of 20 is TAKEN BACK", x.event(0, 0, 1), FULL);
    }

    @Says(in = "Term 2", text = "a WORK, its DAY (0 .. TODAY)")
    static void dayOfAnEvent() {
        WhoseDelay x = with(4, 5);
        x.today(9);
        due("event(0, -1, 1)", x.event(0, -1, 1), BEYOND);
        due("event(0, 10, 1)", x.event(0, 10, 1), BEYOND);
        due("event(0, 0, 1)", x.event(0, 0, 1), 0);
        due("event(0, 9, 1)", x.event(0, 9, 1), 1);
        due("of(0, 2)", x.of(0, 2), 0);
        due("of(1, 2)", x.of(1, 2), 9);
    }

    @Says(in = "Term 2", text = "how many days it is more (1 .. 30)")
    static void daysOfAnEvent() {
        WhoseDelay x = with(4, 5);
        due("event(0, 0, 0)", x.event(0, 0, 0), BEYOND);
        due("event(0, 0, 31)", x.event(0, 0, 31), BEYOND);
        due("event(0, 0, 1)", x.event(0, 0, 1), 0);
        due("event(0, 0, 30)", x.event(0, 0, 30), 1);
        due("end(1)", x.end(1), 6);
        due("end(2)", x.end(2), 35);
    }

    @Says(in = "Term 2", text = "a CAUSE: 0 OWNER, 1 BUILDER, 2 SKY, 3 OTHERS")
    static void causesAre0To3() {
        WhoseDelay x = with(4, 5);
        int[] risks = {2, 0, 1, 1};
        for (int cause = 0; cause < 4; cause++) {
            due("event(" + cause + ", 0, 1)", x.event(cause, 0, 1), cause);
            due("of(" + cause + ", 1)", x.of(cause, 1), cause);
            due("says(0, " + cause + ")", x.says(0, cause), risks[cause]);
        }
        due("event(4, 0, 1)", x.event(4, 0, 1), BEYOND);
    }

    @Says(in = "Term 2", text = "with a NOTICE on a day (at its DAY or behind it, up to TODAY), or without")
    static void dayOfANotice() {
        WhoseDelay x = with(4, 5);
        x.today(9);
        x.event(0, 5, 1);
        x.event(0, 5, 1);
        due("of(0, 4) without", x.of(0, 4), -1);
        due("notice(0, 4)", x.notice(0, 4), BEYOND);
        due("notice(0, 10)", x.notice(0, 10), BEYOND);
        due("notice(0, 5)", x.notice(0, 5), 1);
        due("notice(1, 9)", x.notice(1, 9), 1);
        due("of(0, 4)", x.of(0, 4), 5);
        due("of(1, 4)", x.of(1, 4), 9);
    }

    @Says(in = "Term 2", text = "told on TODAY; some are TAKEN BACK on a day later")
    static void takenBackOnADayLater() {
        WhoseDelay x = with(4, 5);
        x.today(899);
        x.event(0, 0, 1);
        due("of(0, 5)", x.of(0, 5), 899);
        due("back(0) on the day it was told", x.back(0), STATE);
        due("of(0, 6)", x.of(0, 6), -1);
        x.today(900);
        due("back(0) a day later", x.back(0), 1);
        due("of(0, 6)", x.of(0, 6), 900);
    }

    @Says(in = "Term 2", text = "KNOWN on day k are EVENTS told on k or ahead, and not TAKEN BACK on k or ahead")
    static void knownFromToldToTakenBack() {
        WhoseDelay x = with(4, 5);
        x.today(4);
        x.event(0, 0, 1);
        x.today(6);
        x.back(0);
        int[] known = {0, 0, 0, 0, 1, 1, 0, 0};
        for (int k = 0; k < 8; k++) {
            due("known(" + k + ")", x.known(k), known[k]);
        }
        due("known(900)", x.known(900), 0);
    }

    @Says(in = "Term 2", text = "IN ORDER they are by DAY, then by number")
    static void inOrderByDayThenNumber() {
        // Two works at once: what comes first has its days, the second what it has more.
        WhoseDelay x = with(4, 10, 10);
        x.today(9);
        x.event(0, 7, 4);
        x.event(10, 7, 6);
        due("one(0, 9) on the same DAY", x.one(0, 9), 4);
        due("one(1, 9) on the same DAY", x.one(1, 9), 2);
        WhoseDelay y = with(4, 10, 10);
        y.today(9);
        y.event(0, 7, 4);
        y.event(10, 6, 6);
        due("one(0, 9) a DAY behind", y.one(0, 9), 0);
        due("one(1, 9) a DAY ahead", y.one(1, 9), 6);
    }

    @Says(in = "Term 2", text = "Of a set of EVENTS: its END is THE END by WORKS with just these")
    static void endOfASet() {
        WhoseDelay x = with(4, 5, 9);
        x.event(0, 0, 6);
        x.event(10, 0, 3);
        due("end(0), the empty set", x.end(0), 9);
        due("end(1)", x.end(1), 11);
        due("end(2)", x.end(2), 12);
        due("end(3), all", x.end(3), 12);
        due("end(4), more than there are", x.end(4), BEYOND);
        x.today(1);
        x.back(0);
        due("end(1) of one TAKEN BACK", x.end(1), 11);
    }

    @Says(in = "Term 2", text = "FLOAT of a WORK for a set: by how many days (99 at most) it could be LONG more, so that the END is as it is")
    static void floatIs99AtMost() {
        // A row of 100 or 101 days beside one of 1 or 2.
        WhoseDelay x = inRow(with(4, 40, 40, 20));
        x.work(4, 1);
        due("FLOAT of one that rules", x.plan(0, 0, 2), 0);
        due("FLOAT of 99 days", x.plan(0, 3, 2), 99);
        x.edit(3, 2);
        due("FLOAT of 98 days", x.plan(0, 3, 2), 98);
        x.edit(3, 1);
        x.edit(2, 21);
        due("FLOAT of 100 days", x.plan(0, 3, 2), 99);
        x.event(30, 0, 2);
        due("FLOAT for a set", x.plan(1, 3, 2), 98);
        due("FLOAT for none", x.plan(0, 3, 2), 99);
        x.edit(2, 40);
        due("FLOAT of 119 days", x.plan(0, 3, 2), 99);
        // Days that rest are room that no day of work takes: up to day 8 there are six.
        WhoseDelay y = with(0, 1);
        y.work(4, 8);
        due("FLOAT of WORKING days", y.plan(0, 0, 2), 5);
        y.edit(1, 7);
        due("FLOAT up to a rest", y.plan(0, 0, 2), 4);
        due("FLOAT of the only one", with(4, 1).plan(0, 0, 2), 0);
        // Two ends of the same day: neither could be longer.
        due("FLOAT of the first of two", with(4, 3, 3).plan(0, 0, 2), 0);
    }

    @Says(in = "Term 2", text = "THE CHAIN for a set: the WORK whose END is greatest (of several the least number)")
    static void chainFromTheGreatestEnd() {
        due("chain(0, 0) of 3, 5, 4", with(4, 3, 5, 4).chain(0, 0), 1);
        due("chain(0, 0) of 3, 5, 5", with(4, 3, 5, 5).chain(0, 0), 1);
        due("chain(0, 0) of 5, 5, 5", with(4, 5, 5, 5).chain(0, 0), 0);
        due("chain(0, 0) of 3, 4, 5", with(4, 3, 4, 5).chain(0, 0), 2);
        due("chain(0, 0) of one", with(4, 5).chain(0, 0), 0);
        due("chain(0, 0) without WORKS", new WhoseDelay().chain(0, 0), NONE);
        WhoseDelay x = with(4, 5, 5);
        x.event(10, 0, 1);
        due("chain(0, 0)", x.chain(0, 0), 0);
        due("chain(1, 0)", x.chain(1, 0), 1);
    }

    @Says(in = "Term 2", text = "then, as long as READY of that is told by a LINK (is the END and LAG of it; of several that from the least WORK), that from which it comes")
    static void chainByTheLinkThatTells() {
        WhoseDelay x = with(4, 5, 8, 6, 2);
        x.link(2, 3, 2);
        x.link(1, 3, 0);
        x.link(0, 3, 3);
        due("chain(0, 0)", x.chain(0, 0), 3);
        due("chain(0, 1), three tell READY", x.chain(0, 1), 0);
        x.edit(0, 4);
        due("chain(0, 1), two tell READY", x.chain(0, 1), 1);
        x.edit(1, 7);
        due("chain(0, 1), one tells READY", x.chain(0, 1), 2);
        due("chain(0, 2), no LINK tells READY", x.chain(0, 2), NONE);
        x.edit(0, 40);
        x.unlink(0, 3);
        due("chain(0, 0) of one without LINKS", x.chain(0, 0), 0);
        due("chain(0, 1) of one without LINKS", x.chain(0, 1), NONE);
    }

    // ---- term 3: whose it was

    @Says(in = "Term 3", text = "ONE AT A TIME: of an EVENT by how much the END of all up to it IN ORDER is more than that of all ahead of it")
    static void oneAtATime() {
        WhoseDelay x = with(4, 10, 13);
        x.today(9);
        x.event(0, 3, 5);
        x.event(0, 9, 2);
        x.event(0, 0, 1);
        // IN ORDER 2, 0, 1: ends 13, 13, 16, 18.
        due("one(2, 9), none is ahead", x.one(2, 9), 0);
        due("one(0, 9)", x.one(0, 9), 3);
        due("one(1, 9), all are ahead", x.one(1, 9), 2);
        WhoseDelay y = events(1);
        due("one(0, 900) of the only one", y.one(0, 900), 1);
    }

    @Says(in = "Term 3", text = "WITHOUT: of an EVENT by how much the END of ALL is more than that of ALL but it")
    static void withoutOne() {
        WhoseDelay x = with(4, 10, 13);
        x.today(9);
        x.event(0, 3, 5);
        x.event(0, 9, 2);
        x.event(0, 0, 1);
        // All: 18; without 0: 13; without 1: 16; without 2: 17.
        due("without(0, 9)", x.without(0, 9), 5);
        due("without(1, 9)", x.without(1, 9), 2);
        due("without(2, 9)", x.without(2, 9), 1);
        x.event(13, 0, 30);
        due("without(0, 9) that does not rule", x.without(0, 9), 0);
        due("without(3, 9)", x.without(3, 9), 25);
    }

    @Says(in = "Term 3", text = "BUT FOR: of a CAUSE likewise of ALL but all of that CAUSE")
    static void butForACause() {
        WhoseDelay x = with(4, 10);
        due("butFor(0, 0) without EVENTS", x.butFor(0, 0), 0);
        x.event(0, 0, 5);
        x.event(0, 0, 2);
        due("butFor(0, 0), ALL being of it", x.butFor(0, 0), 7);
        due("butFor(1, 0), none being of it", x.butFor(1, 0), 0);
        x.event(3, 0, 4);
        due("butFor(0, 0)", x.butFor(0, 0), 7);
        due("butFor(3, 0)", x.butFor(3, 0), 4);
    }

    @Says(in = "Term 3", text = "WINDOWS of n days (5 .. 100)")
    static void windowsOf5To100Days() {
        WhoseDelay x = events(1);
        due("window(4, 0, -1, 900)", x.window(4, 0, -1, 900), BEYOND);
        due("window(101, 0, -1, 900)", x.window(101, 0, -1, 900), BEYOND);
        due("window(5, 0, -1, 900)", x.window(5, 0, -1, 900), 1);
        due("window(100, 0, -1, 900)", x.window(100, 0, -1, 900), 1);
    }

    @Says(in = "Term 3", text = "WINDOW w has days w n .. w n + n - 1")
    static void daysOfAWindow() {
        WhoseDelay x = with(4, 10);
        x.today(900);
        int[] days = {0, 13, 14, 20, 21, 900};
        for (int e = 0; e < 6; e++) {
            x.event(e % 4, days[e], 1 << e % 5);
        }
        // Of 7 days: 0 .. 6, 7 .. 13, 14 .. 20, 21 .. 27; day 900 is in 128.
        int[] lost = {1, 2, 4 + 8, 16, 0};
        for (int w = 0; w < 5; w++) {
            due("window(7, " + w + ", -1, 900)", x.window(7, w, -1, 900), lost[w]);
        }
        due("window(7, 127, -1, 900)", x.window(7, 127, -1, 900), 0);
        due("window(7, 128, -1, 900)", x.window(7, 128, -1, 900), 1);
        due("window(7, 129, -1, 900)", x.window(7, 129, -1, 900), 0);
        due("window(100, 8, -1, 900), up to day 899", x.window(100, 8, -1, 900), 0);
        due("window(100, 9, -1, 900), from day 900 on", x.window(100, 9, -1, 900), 1);
    }

    @Says(in = "Term 3", text = "what is lost in it is by how much the END of all EVENTS with a DAY up to its last one is more than that of all with a DAY ahead of it")
    static void lostInAWindow() {
        WhoseDelay x = with(4, 10, 10);
        x.today(20);
        x.event(0, 2, 4);
        x.event(11, 5, 6);
        x.event(12, 9, 1);
        x.event(3, 10, 3);
        // Ends: none 10, up to day 4: 14, up to day 9: 17, up to day 14: 17.
        due("window(5, 0, -1, 20)", x.window(5, 0, -1, 20), 4);
        due("window(5, 1, -1, 20)", x.window(5, 1, -1, 20), 3);
        due("window(5, 2, -1, 20), where nothing more is lost", x.window(5, 2, -1, 20), 0);
        due("window(5, 2, 3, 20)", x.window(5, 2, 3, 20), 0);
        due("window(5, 3, -1, 20), without EVENTS", x.window(5, 3, -1, 20), 0);
        due("window(20, 0, -1, 20)", x.window(20, 0, -1, 20), 7);
    }

    @Says(in = "Term 3", text = "this is PARTED among the CAUSES of EVENTS of its days by their days together")
    static void partedAmongCausesOfItsDays() {
        WhoseDelay x = with(4, 10, 10);
        x.today(20);
        x.event(0, 2, 4);
        x.event(11, 5, 6);
        x.event(12, 9, 1);
        x.event(12, 9, 1);
        x.event(1, 9, 2);
        // In window 1 are lost 14 .. 18: 4 days, by 8 of the BUILDER and 2 of the SKY: 3.2 and 0.8.
        due("window(5, 1, -1, 20)", x.window(5, 1, -1, 20), 4);
        due("window(5, 1, 0, 20), none of its days", x.window(5, 1, 0, 20), 0);
        due("window(5, 1, 1, 20)", x.window(5, 1, 1, 20), 3);
        due("window(5, 1, 2, 20)", x.window(5, 1, 2, 20), 1);
        due("window(5, 1, 3, 20), none at all", x.window(5, 1, 3, 20), 0);
        due("window(5, 3, 1, 20), a window without EVENTS", x.window(5, 3, 1, 20), 0);
    }

    @Says(in = "Term 3", text = "each has that times its days / all days, what is left over goes by ones to those with the greatest remainders, of several the least CAUSE")
    static void leftOverGoesByOnes() {
        due("all of one", parts(7, 0, 0, 0), 7000);
        due("no remainders: 6 by 6, 0, 6", parts(6, 0, 6, 0), 3030);
        due("3 by 3, 3, 3: no remainders", parts(3, 3, 3, 0), 1110);
        due("4 by 4, 4, 4: one left over", parts(4, 4, 4, 0), 2110);
        due("5 by 5, 5, 5: two left over", parts(5, 5, 5, 0), 2210);
        due("7 by 7, 7, 7, 7: three left over", parts(7, 7, 7, 7), 2221);
        due("5 by 0, 5, 5, 5: two left over", parts(0, 5, 5, 5), 221);
        due("2 by 1, 0, 0, 2: the greatest remainder", parts(1, 0, 0, 2), 1001);
        // 5 by 1, 2, 5: 0.625, 1.25, 3.125.
        due("5 by 1, 2, 5", parts(1, 2, 5, 0), 1130);
        // 9 by 9, 1, 1, 1: 6.75, 0.75, 0.75, 0.75.
        due("9 by 9, 1, 1, 1", parts(9, 1, 1, 1), 7110);
        // 1 by 1, 1, 1, 1.
        due("1 by 1, 1, 1, 1", parts(1, 1, 1, 1), 1000);
        due("1 by 0, 0, 1, 1", parts(0, 0, 1, 1), 10);
    }

    // ---- term 5: hurry

    @Says(in = "Term 5", text = "HURRY: at most 5 WORKS")
    static void atMost5AreHurried() {
        WhoseDelay x = many(6, 0, 9);
        for (int w = 0; w < 5; w++) {
            due("hurry(" + w + ", 1, 1)", x.hurry(w, 1, 1), w + 1);
        }
        due("hurry(5, 1, 1)", x.hurry(5, 1, 1), FULL);
    }

    @Says(in = "Term 5", text = "each by 1 or 2 days at most, less than it is LONG")
    static void hurriedBy1Or2Days() {
        WhoseDelay x = with(0, 1, 2, 2, 3);
        due("hurry(3, 0, 1)", x.hurry(3, 0, 1), BEYOND);
        due("hurry(3, 3, 1)", x.hurry(3, 3, 1), BEYOND);
        due("hurry(0, 1, 1) of 1 day", x.hurry(0, 1, 1), STATE);
        due("hurry(0, 2, 1) of 1 day", x.hurry(0, 2, 1), STATE);
        due("hurry(1, 2, 1) of 2 days", x.hurry(1, 2, 1), STATE);
        due("hurry(2, 1, 1) of 2 days", x.hurry(2, 1, 1), 1);
        due("hurry(3, 2, 1) of 3 days", x.hurry(3, 2, 1), 2);
        due("edit(3, 2)", x.edit(3, 2), STATE);
        due("edit(2, 1)", x.edit(2, 1), STATE);
    }

    @Says(in = "Term 5", text = "for a price a day (1 .. 999); CURINGS can't be")
    static void hurriedForAPrice() {
        WhoseDelay x = with(4, 9, 9);
        x.work(5, 9);
        x.work(2, 9);
        due("hurry(0, 1, 0)", x.hurry(0, 1, 0), BEYOND);
        due("hurry(0, 1, 1000)", x.hurry(0, 1, 1000), BEYOND);
        due("hurry(2, 1, 1) of a CURING", x.hurry(2, 1, 1), KIND);
        due("hurry(3, 1, 1) of a BUILDING", x.hurry(3, 1, 1), 1);
        due("hurry(0, 1, 1)", x.hurry(0, 1, 1), 2);
        due("hurry(1, 2, 999)", x.hurry(1, 2, 999), 3);
    }

    @Says(in = "Term 5", text = "THE LEAST for a day (0 .. 9999) by ALL that are KNOWN TODAY")
    static void leastForADay() {
        WhoseDelay x = with(4, 9);
        x.hurry(0, 2, 5);
        due("least(-1, -1)", x.least(-1, -1), BEYOND);
        due("least(0, -1)", x.least(0, -1), NONE);
        due("least(9999, -1)", x.least(9999, -1), 0);
        due("least(10000, -1)", x.least(10000, -1), BEYOND);
        due("least(9, -1)", x.least(9, -1), 0);
        x.event(0, 0, 1);
        due("least(9, -1) with an EVENT", x.least(9, -1), 5);
        x.today(1);
        x.back(0);
        due("least(9, -1) with it TAKEN BACK", x.least(9, -1), 0);
        WhoseDelay y = new WhoseDelay();
        due("least(0, -1) of no WORKS", y.least(0, -1), 0);
    }

    @Says(in = "Term 5", text = "so that the END, those being LONG less as told, is that day or ahead, at the least sum")
    static void leastIsThatDayOrAhead() {
        WhoseDelay x = inRow(with(4, 9, 9));
        x.hurry(0, 2, 7);
        x.hurry(1, 2, 4);
        int[] sums = {NONE, 22, 15, 8, 4, 0, 0};
        for (int day = 13; day < 20; day++) {
            due("least(" + day + ", -1)", x.least(day, -1), sums[day - 13]);
        }
        due("least(15, 0)", x.least(15, 0), 1);
        due("least(15, 1)", x.least(15, 1), 2);
        // A hurry over days that rest: the day itself is never the END.
        WhoseDelay y = with(0, 6);
        y.hurry(0, 1, 3);
        due("least(8, -1)", y.least(8, -1), 0);
        due("least(7, -1)", y.least(7, -1), 3);
        due("least(5, -1)", y.least(5, -1), 3);
        due("least(4, -1)", y.least(4, -1), NONE);
    }

    @Says(in = "Term 5", text = "of several the one that hurries the first of them (as they were told) least, then the second")
    static void leastHurriesTheFirstLeast() {
        WhoseDelay x = inRow(with(4, 9, 9, 9));
        x.hurry(2, 2, 5);
        x.hurry(0, 2, 5);
        x.hurry(1, 2, 5);
        int[][] hurried = {{0, 0, 0}, {0, 0, 1}, {0, 0, 2}, {0, 1, 2}, {0, 2, 2}, {1, 2, 2}, {2, 2, 2}};
        for (int less = 0; less <= 6; less++) {
            due("least(" + (27 - less) + ", -1)", x.least(27 - less, -1), 5 * less);
            for (int i = 0; i < 3; i++) {
                due("least(" + (27 - less) + ", " + i + ")", x.least(27 - less, i), hurried[less][i]);
            }
        }
        // A day of 6 over a rest brings three days, two days of 3 bring two: two are asked for.
        for (int first = 0; first < 2; first++) {
            WhoseDelay y = new WhoseDelay();
            y.work(0, 6);
            y.work(4, 9);
            y.link(0, 1, 0);
            y.hurry(first, 1 + first, first == 0 ? 6 : 3);
            y.hurry(1 - first, 2 - first, first == 0 ? 3 : 6);
            due("least(15, -1)", y.least(15, -1), 6);
            due("least(15, 0)", y.least(15, 0), 0);
            due("least(15, 1)", y.least(15, 1), 2 - first);
        }
    }

    // ---- term 6: voices

    /** A work of a kind that is number 3 and was told as 7 days LONG, and is otherwise by now. */
    private static int voice(int kind, int act, int x) {
        WhoseDelay one = many(3, 4, 1);
        one.work(kind, 7);
        one.edit(3, 40);
        return one.voice(3, act, x);
    }

    private static void voices(int kind, int act, int... xAndWant) {
        for (int i = 0; i < xAndWant.length; i += 2) {
            due("voice " + act + " of kind " + kind + " with " + xAndWant[i], voice(kind, act, xAndWant[i]), xAndWant[i + 1]);
        }
    }

    @Says(in = "Term 6", text = "VOICES of a WORK, with a number x (ints that go round); n is its number, l how LONG it was told first: 0 hold, 1 push, 2 wait, 3 tell")
    static void voicesAre0To3() {
        WhoseDelay x = many(16, 0, 1);
        due("hold of the last", x.voice(15, 0, 0), 1);
        due("push of the last", x.voice(15, 1, 0), 2);
        due("wait of the last", x.voice(15, 2, 0), -15);
        due("tell of the last", x.voice(15, 3, 0), 2 ^ -15);
        due("voice -1", x.voice(15, -1, 0), BEYOND);
        due("voice 4", x.voice(15, 4, 0), BEYOND);
        x.edit(15, 40);
        due("hold, told as LONG first", x.voice(15, 0, 0), 1);
        due("hold that goes round", x.voice(15, 0, MAX), MIN);
        due("wait that goes round", x.voice(15, 2, MIN), MAX - 14);
    }

    @Says(in = "Term 6", text = "BODIES: WORK: 10 hold: x + l")
    static void body10() {
        voices(0, 0, 5, 12, -7, 0, MAX, MIN + 6, MIN, MIN + 7);
        voices(1, 0, 5, 12);
        voices(4, 0, 5, 12);
    }

    @Says(in = "Term 6", text = "11 push: hold(x) * 2")
    static void body11() {
        voices(0, 1, 5, 24, -7, 0, MAX, 12, 1 << 30, MIN + 14, MIN, 14);
        voices(4, 1, 5, 24);
    }

    @Says(in = "Term 6", text = "12 wait: x - n")
    static void body12() {
        voices(0, 2, 5, 2, 3, 0, MIN, MAX - 2, MAX, MAX - 3);
        voices(1, 2, 5, 2);
        voices(2, 2, 5, 2);
        voices(4, 2, 5, 2);
    }

    @Says(in = "Term 6", text = "13 tell: push(x) ^ wait(x)")
    static void body13() {
        voices(0, 3, 5, 24 ^ 2, MAX, 12 ^ (MAX - 3), MIN, 14 ^ (MAX - 2));
        voices(1, 3, 5, 22 ^ 2);
    }

    @Says(in = "Term 6", text = "DIGGING: 20 push: super.push(x) - wait(x)")
    static void body20() {
        voices(1, 1, 5, 24 - 2, MAX, 12 - (MAX - 3), MIN, 14 - (MAX - 2));
    }

    @Says(in = "Term 6", text = "BUILDING: 30 hold: super.hold(x) + n")
    static void body30() {
        voices(2, 0, 5, 15, MAX, MIN + 9);
        voices(2, 1, 5, 30);
        voices(5, 0, 5, 15);
    }

    @Says(in = "Term 6", text = "31 tell: super.tell(x + 1)")
    static void body31() {
        voices(2, 3, 5, 32 ^ 3, MAX, 20 ^ (MAX - 2), -1, 20 ^ -3);
    }

    @Says(in = "Term 6", text = "FITTING: 40 wait: super.wait(x) * 3")
    static void body40() {
        voices(3, 2, 5, 6, 3, 0, MAX, (MAX - 3) * 3, MIN, (MAX - 2) * 3);
    }

    @Says(in = "Term 6", text = "41 hold: super.hold(x - l)")
    static void body41() {
        voices(3, 0, 5, 8, MAX, MIN + 2, MIN, MIN + 3);
        voices(3, 1, 5, 16);
        voices(3, 3, 5, 18 ^ 9);
    }

    @Says(in = "Term 6", text = "PAPER: 50 tell: wait(x) - super.tell(x)")
    static void body50() {
        voices(4, 3, 5, 2 - (24 ^ 2), MIN, MAX - 2 - (14 ^ (MAX - 2)));
    }

    @Says(in = "Term 6", text = "CURING: 60 wait: super.wait(x + n)")
    static void body60() {
        voices(5, 2, 5, 5, MAX, MAX, MIN, MIN, 0, 0);
    }

    @Says(in = "Term 6", text = "61 push: super.push(x) ^ hold(x)")
    static void body61() {
        voices(5, 1, 5, 30 ^ 15, MAX, 18 ^ (MIN + 9));
        voices(5, 3, 5, 32 ^ 16 ^ 6);
    }

    @Says(in = "Term 6", text = "hold(..) is the BODY of its KIND, or of the next KIND above that has one; super.hold(..) that from the KIND above the BODY's on")
    static void bodiesOfKindsAndAbove() {
        // For each kind: the bodies that begin for hold, push, wait, tell.
        String[][] begun = {
            {"10", "11 10", "12", "13 11 10 12"},
            {"10", "20 11 10 12", "12", "13 20 11 10 12 12"},
            {"30 10", "11 30 10", "12", "31 13 11 30 10 12"},
            {"41 30 10", "11 41 30 10", "40 12", "31 13 11 41 30 10 40 12"},
            {"10", "11 10", "12", "50 12 13 11 10 12"},
            {"30 10", "61 11 30 10 30 10", "60 12", "31 13 61 11 30 10 30 10 60 12"},
        };
        for (int kind = 0; kind < 6; kind++) {
            for (int act = 0; act < 4; act++) {
                WhoseDelay x = with(kind, 7);
                x.voice(0, act, 0);
                traced(x, begun[kind][act]);
            }
        }
    }

    @Says(in = "Term 6", text = "THE TRACE: the numbers of BODIES of the latest voice(), as they began (what stands left is worked out first), the first 40")
    static void traceIsOfTheLatestVoice() {
        WhoseDelay x = with(5, 7);
        x.work(0, 7);
        due("told(9) at first", x.told(9), 0);
        due("trace(0) at first", x.trace(0), NONE);
        x.voice(0, 3, 0);
        traced(x, "31 13 61 11 30 10 30 10 60 12");
        x.voice(1, 0, 0);
        traced(x, "10");
        x.voice(2, 0, 0);
        traced(x, "10");
        x.voice(0, 1, 0);
        traced(x, "61 11 30 10 30 10");
        due("trace(39)", x.trace(39), NONE);
        due("trace(40)", x.trace(40), NONE);
    }

    // ---- term 7: sheets

    @Says(in = "Term 7", text = "SHEETS 0 .. 3 are rows of 8, 16, 32 bits, at most 24 numbers, or missing (as at first)")
    static void sheetsAre0To3() {
        WhoseDelay x = new WhoseDelay();
        int[] bits = {8, 16, 32};
        for (int s = 0; s < 4; s++) {
            due("put(" + s + ", 0, 0) at first", x.put(s, 0, 0), NONE);
            due("proves(" + s + ", 0, 0) at first", x.proves(s, 0, 0), NONE);
            due("move at first", x.move(s, 0, s, 0, 0), NONE);
            for (int b : bits) {
                due("sheet(" + s + ", " + b + ", 24)", x.sheet(s, b, 24), 1);
                due("put(" + s + ", 23, 1)", x.put(s, 23, 1), 1);
                due("put(" + s + ", 24, 1)", x.put(s, 24, 1), BEYOND);
                due("sheet(" + s + ", " + b + ", 25)", x.sheet(s, b, 25), BEYOND);
            }
        }
        due("sheet(-1, 8, 1)", x.sheet(-1, 8, 1), BEYOND);
        due("sheet(4, 8, 1)", x.sheet(4, 8, 1), BEYOND);
    }
}
