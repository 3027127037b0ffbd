/** Promises 1 to 9: works. */
public final class EdgesOfWorksTest extends Edges {
    public static void main(String[] args) throws Exception {
        run(EdgesOfWorksTest.class);
    }

    @Says(in = "Promise 1", text = "No WORKS; TODAY 0")
    static void aNewObject() {
        WhoseDelay other = rich();
        WhoseDelay x = new WhoseDelay();
        for (int what = 0; what <= 9; what++) {
            due("told(" + what + ")", x.told(what), 0);
        }
        for (int k = 1; k <= 5; k++) {
            due("found(" + k + ")", x.found(k), 0);
        }
        due("end(0)", x.end(0), 0);
        due("as(0, 0)", x.as(0, 0), BEYOND);
        due("event(0, 0, 1)", x.event(0, 0, 1), BEYOND);
        due("restore()", x.restore(), NONE);
        due("image()", x.image(), 1);
        due("restore()", x.restore(), 0);
        due("told(0) of another", other.told(0), 7);
    }

    @Says(in = "Promise 2", text = "A WORK: its number")
    static void workAnswersItsNumber() {
        WhoseDelay x = new WhoseDelay();
        for (int w = 0; w < 16; w++) {
            due("work(" + w % 6 + ", " + (w + 1) + ")", x.work(w % 6, w + 1), w);
            due("told(0)", x.told(0), w + 1);
        }
        for (int w = 0; w < 16; w++) {
            due("as(" + w + ", " + w % 6 + ")", x.as(w, w % 6), w + 1);
        }
    }

    @Says(in = "Promise 2", text = "BEYOND")
    static void workBeyond() {
        WhoseDelay x = new WhoseDelay();
        allAre("work of no such kind", BEYOND, x.work(-1, 1), x.work(6, 1), x.work(MIN, 1), x.work(MAX, 1));
        allAre("work of no such days", BEYOND, x.work(0, 0), x.work(0, -1), x.work(5, 41), x.work(0, MIN), x.work(0, MAX));
        due("told(0)", x.told(0), 0);
        due("found(1)", x.found(1), 9);
    }

    @Says(in = "Promise 2", text = "FULL")
    static void workFull() {
        WhoseDelay x = many(15, 0, 1);
        due("the 16th", x.work(0, 1), 15);
        for (int kind = 0; kind < 6; kind++) {
            due("a 17th of kind " + kind, x.work(kind, 1), FULL);
        }
        due("told(0)", x.told(0), 16);
        due("found(4)", x.found(4), 6);
    }

    @Says(in = "Promise 3", text = "A WORK as one of a kind: how LONG it is")
    static void asAnswersHowLong() {
        WhoseDelay x = with(3, 1, 40);
        due("as(0, 3)", x.as(0, 3), 1);
        due("as(1, 2)", x.as(1, 2), 40);
        due("as(1, 0)", x.as(1, 0), 40);
        x.event(0, 0, 9);
        x.edit(1, 2);
        x.hurry(1, 1, 1);
        due("as(0, 0), what is more by EVENTS is not LONG", x.as(0, 0), 1);
        due("as(1, 0), edited, and not less as it may be HURRIED", x.as(1, 0), 2);
    }

    @Says(in = "Promise 3", text = "BEYOND")
    static void asBeyond() {
        WhoseDelay x = with(3, 5);
        allAre("as of no such WORK", BEYOND, x.as(1, 0), x.as(-1, 0), x.as(16, 0), x.as(MIN, 0), x.as(MAX, 0));
        allAre("as of no such kind", BEYOND, x.as(0, -1), x.as(0, 6), x.as(0, MIN), x.as(0, MAX));
        due("as(0, 0) without WORKS", new WhoseDelay().as(0, 0), BEYOND);
    }

    @Says(in = "Promise 3", text = "KIND: it isn't of that kind, nor of one under it")
    static void asKind() {
        int[][] others = {{1, 2, 3, 4, 5}, {2, 3, 4, 5}, {1, 3, 4, 5}, {1, 4, 5}, {1, 2, 3, 5}, {1, 3, 4}};
        for (int kind = 0; kind < 6; kind++) {
            WhoseDelay x = with(kind, 7);
            for (int other : others[kind]) {
                due("one of kind " + kind + " as " + other, x.as(0, other), KIND);
            }
            due("found(5)", x.found(5), others[kind].length);
        }
    }

    @Says(in = "Promise 4", text = "A WORK is LONG otherwise: how LONG it was")
    static void editAnswersHowLongItWas() {
        WhoseDelay x = with(4, 5);
        due("edit(0, 1)", x.edit(0, 1), 5);
        due("end(0)", x.end(0), 1);
        due("edit(0, 40)", x.edit(0, 40), 1);
        due("end(0)", x.end(0), 40);
        due("edit(0, 40), the same", x.edit(0, 40), 40);
        due("voice(0, 0, 0), as told first", x.voice(0, 0, 0), 5);
    }

    @Says(in = "Promise 4", text = "BEYOND")
    static void editBeyond() {
        WhoseDelay x = with(4, 5);
        allAre("edit of no such WORK", BEYOND, x.edit(1, 5), x.edit(-1, 5), x.edit(MIN, 5), x.edit(MAX, 5));
        allAre("edit of no such days", BEYOND, x.edit(0, 0), x.edit(0, 41), x.edit(0, -1), x.edit(0, MIN), x.edit(0, MAX));
        due("as(0, 0)", x.as(0, 0), 5);
    }

    @Says(in = "Promise 4", text = "STATE: it is hurried by as many days, or more")
    static void editState() {
        WhoseDelay x = with(4, 9, 9, 9);
        x.hurry(0, 1, 1);
        x.hurry(1, 2, 1);
        due("edit(0, 1), hurried by 1", x.edit(0, 1), STATE);
        due("edit(0, 2), hurried by 1", x.edit(0, 2), 9);
        due("edit(1, 1), hurried by 2", x.edit(1, 1), STATE);
        due("edit(1, 2), hurried by 2", x.edit(1, 2), STATE);
        due("edit(1, 3), hurried by 2", x.edit(1, 3), 9);
        due("edit(2, 1), not hurried", x.edit(2, 1), 9);
        x.calm();
        due("edit(1, 1), not hurried any more", x.edit(1, 1), 3);
    }

    @Says(in = "Promise 5", text = "A LINK: how many there are")
    static void linkAnswersHowMany() {
        WhoseDelay x = with(4, 1, 2, 3);
        due("link(0, 1, 0)", x.link(0, 1, 0), 1);
        due("link(1, 2, 20)", x.link(1, 2, 20), 2);
        due("link(0, 2, 5)", x.link(0, 2, 5), 3);
        x.unlink(0, 1);
        due("link(0, 1, 1)", x.link(0, 1, 1), 3);
        due("end(0)", x.end(0), 27);
    }

    @Says(in = "Promise 5", text = "BEYOND: no such WORKS, both are one, LAG")
    static void linkBeyond() {
        WhoseDelay x = with(4, 1, 2);
        allAre("link of no such WORKS", BEYOND, x.link(2, 0, 0), x.link(0, 2, 0), x.link(-1, 0, 0), x.link(0, -1, 0), x.link(MIN, 0, 0), x.link(0, MAX, 0));
        allAre("link of one and itself", BEYOND, x.link(0, 0, 0), x.link(1, 1, 20));
        allAre("link of no such LAG", BEYOND, x.link(0, 1, -1), x.link(0, 1, 21), x.link(0, 1, MIN), x.link(0, 1, MAX));
        due("told(1)", x.told(1), 0);
    }

    @Says(in = "Promise 5", text = "STATE: there is one, or there would be a ring")
    static void linkState() {
        WhoseDelay x = with(4, 1, 1, 1, 1);
        x.link(2, 0, 0);
        x.link(0, 3, 0);
        due("link(2, 0, 0), there is one", x.link(2, 0, 0), STATE);
        due("link(0, 2, 0), a ring of two", x.link(0, 2, 0), STATE);
        due("link(3, 2, 0), a ring of three", x.link(3, 2, 0), STATE);
        due("link(3, 1, 0)", x.link(3, 1, 0), 3);
        due("link(1, 2, 0), a ring of four", x.link(1, 2, 0), STATE);
        due("link(2, 1, 0), a shorter way", x.link(2, 1, 0), 4);
    }

    @Says(in = "Promise 5", text = "FULL")
    static void linkFull() {
        WhoseDelay x = full();
        due("told(1)", x.told(1), 30);
        due("a 31st", x.link(0, 15, 0), FULL);
        due("found(4)", x.found(4), 1);
        x.unlink(0, 1);
        due("a 30th", x.link(0, 15, 0), 30);
        due("a 31st", x.link(0, 1, 0), FULL);
    }

    @Says(in = "Promise 6", text = "A LINK between two WORKS is none any more: its LAG")
    static void unlinkAnswersItsLag() {
        WhoseDelay x = with(4, 5, 5, 5);
        x.link(0, 1, 0);
        x.link(1, 2, 20);
        due("unlink(1, 2)", x.unlink(1, 2), 20);
        due("end(0)", x.end(0), 10);
        due("unlink(0, 1)", x.unlink(0, 1), 0);
        due("end(0)", x.end(0), 5);
        due("told(1)", x.told(1), 0);
    }

    @Says(in = "Promise 6", text = "BEYOND: no such WORKS")
    static void unlinkBeyond() {
        WhoseDelay x = with(4, 5, 5);
        allAre("unlink of no such WORKS", BEYOND, x.unlink(2, 0), x.unlink(0, 2), x.unlink(-1, 0), x.unlink(0, -1), x.unlink(MIN, MIN), x.unlink(MAX, 0));
    }

    @Says(in = "Promise 6", text = "NONE (also of one and itself)")
    static void unlinkNone() {
        WhoseDelay x = with(4, 5, 5);
        x.link(0, 1, 4);
        due("unlink(1, 0), the other way", x.unlink(1, 0), NONE);
        due("unlink(0, 0)", x.unlink(0, 0), NONE);
        due("unlink(1, 1)", x.unlink(1, 1), NONE);
        due("told(1)", x.told(1), 1);
        due("unlink(0, 1)", x.unlink(0, 1), 4);
        due("unlink(0, 1) again", x.unlink(0, 1), NONE);
    }

    @Says(in = "Promise 7", text = "THE WEEK becomes a set: what it was")
    static void weekAnswersWhatItWas() {
        WhoseDelay x = with(0, 8);
        int was = 31;
        for (int set = 1; set <= 127; set++) {
            due("week(" + set + ")", x.week(set), was);
            was = set;
            due("end(0)", x.end(0), endByWeek(set, 8));
        }
    }

    /** Day by day. */
    private static int endByWeek(int set, int days) {
        int day = 0;
        for (int left = days; left > 0; day++) {
            left -= set >> day % 7 & 1;
        }
        return day;
    }

    @Says(in = "Promise 7", text = "BEYOND")
    static void weekBeyond() {
        WhoseDelay x = new WhoseDelay();
        allAre("week of no such set", BEYOND, x.week(0), x.week(128), x.week(-1), x.week(255), x.week(MIN), x.week(MAX));
        due("week(31)", x.week(31), 31);
    }

    @Says(in = "Promise 8", text = "RAIN falls on n days (1 .. 60) from one on, or doesn't: of how many it is otherwise than it was")
    static void rainAnswersHowMany() {
        WhoseDelay x = new WhoseDelay();
        due("rain(5, 1, true)", x.rain(5, 1, true), 1);
        due("rain(5, 1, true) again", x.rain(5, 1, true), 0);
        due("rain(0, 60, true)", x.rain(0, 60, true), 59);
        due("told(6)", x.told(6), 60);
        due("rain(59, 2, false), one of them dry", x.rain(59, 2, false), 1);
        due("rain(59, 1, false) again", x.rain(59, 1, false), 0);
        due("rain(0, 60, false)", x.rain(0, 60, false), 59);
        due("told(6)", x.told(6), 0);
        due("rain(840, 60, true), up to the last", x.rain(840, 60, true), 60);
        due("rain(899, 1, false), the last", x.rain(899, 1, false), 1);
        due("told(6)", x.told(6), 59);
        // Over the ends of what a row of 64 holds.
        for (int day = 63; day < 830; day += 64) {
            due("rain(" + day + ", 2, true)", x.rain(day, 2, true), 2);
            due("rain(" + (day - 1) + ", 4, true)", x.rain(day - 1, 4, true), 2);
            due("rain(" + (day - 1) + ", 4, false)", x.rain(day - 1, 4, false), 4);
        }
        due("told(6)", x.told(6), 59);
    }

    @Says(in = "Promise 8", text = "BEYOND: also if one is above 899")
    static void rainBeyond() {
        WhoseDelay x = new WhoseDelay();
        allAre("rain of no such n", BEYOND, x.rain(0, 0, true), x.rain(0, 61, true), x.rain(0, -1, true), x.rain(0, MIN, true), x.rain(0, MAX, true));
        allAre("rain below 0", BEYOND, x.rain(-1, 1, true), x.rain(-1, 60, true), x.rain(MIN, 1, true));
        allAre("rain above 899", BEYOND, x.rain(900, 1, true), x.rain(899, 2, true), x.rain(841, 60, true), x.rain(MAX, 1, true), x.rain(MAX - 30, 60, true));
        allAre("no rain there", BEYOND, x.rain(900, 1, false), x.rain(899, 2, false), x.rain(-1, 1, false));
        due("told(6)", x.told(6), 0);
    }

    @Says(in = "Promise 9", text = "TODAY becomes a day that is not ahead of it: what it was")
    static void todayAnswersWhatItWas() {
        WhoseDelay x = new WhoseDelay();
        due("today(0), the same", x.today(0), 0);
        due("today(1)", x.today(1), 0);
        due("today(1), the same", x.today(1), 1);
        due("today(900)", x.today(900), 1);
        due("today(900), the same", x.today(900), 900);
    }

    @Says(in = "Promise 9", text = "BEYOND")
    static void todayBeyond() {
        WhoseDelay x = new WhoseDelay();
        allAre("today of no such day", BEYOND, x.today(-1), x.today(901), x.today(MIN), x.today(MAX));
        x.today(7);
        allAre("today ahead of it", BEYOND, x.today(6), x.today(0), x.today(-1));
        due("told(5)", x.told(5), 7);
    }
}
