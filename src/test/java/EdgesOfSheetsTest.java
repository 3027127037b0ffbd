/** Promises 31 to 39: voices, sheets, images. */
public final class EdgesOfSheetsTest extends Edges {
    public static void main(String[] args) throws Exception {
        run(EdgesOfSheetsTest.class);
    }

    @Says(in = "Promise 31", text = "A VOICE of a WORK: any number")
    static void voiceIsAnyNumber() {
        WhoseDelay x = with(0, 1);
        for (int k = 0; k <= 6; k++) {
            due("voice(0, 0, ..) of " + (LOW - k), x.voice(0, 0, LOW - k - 1), LOW - k);
            due("told(9)", x.told(9), 1);
        }
        due("voice(0, 0, MAX)", x.voice(0, 0, MAX), MIN);
        due("voice(0, 2, MIN)", x.voice(0, 2, MIN), MIN);
        for (int k = 1; k <= 5; k++) {
            due("found(" + k + "), none of them was a finding", x.found(k), 0);
        }
    }

    @Says(in = "Promise 31", text = "BEYOND")
    static void voiceBeyond() {
        WhoseDelay x = with(0, 1);
        x.voice(0, 1, 0);
        allAre("voice of no such WORK", BEYOND, x.voice(1, 0, 0), x.voice(-1, 0, 0), x.voice(16, 0, 0), x.voice(MIN, 0, 0), x.voice(MAX, 0, 0));
        allAre("voice of no such act", BEYOND, x.voice(0, 4, 0), x.voice(0, -1, 0), x.voice(0, MIN, 0), x.voice(0, MAX, 0));
        traced(x, "11 10");
    }

    @Says(in = "Promise 32", text = "THE TRACE's i-th")
    static void traceOfEach() {
        WhoseDelay x = with(3, 7);
        x.voice(0, 3, 0);
        int[] bodies = {31, 13, 11, 41, 30, 10, 40, 12};
        for (int i = 0; i < 8; i++) {
            due("trace(" + i + ")", x.trace(i), bodies[i]);
        }
    }

    @Says(in = "Promise 32", text = "NONE: there is none such")
    static void traceNone() {
        WhoseDelay x = with(3, 7);
        allAre("trace ahead of any voice", NONE, x.trace(0), x.trace(-1), x.trace(MIN), x.trace(MAX));
        x.voice(0, 3, 0);
        allAre("trace of no such place", NONE, x.trace(8), x.trace(-1), x.trace(39), x.trace(40), x.trace(MIN), x.trace(MAX));
        x.voice(0, 2, 0);
        allAre("trace of a shorter one, where the one ahead had some", NONE, x.trace(2), x.trace(7));
    }

    @Says(in = "Promise 33", text = "A SHEET has n numbers, all 0, of so many bits (8, 16, 32; 0: it is missing, n doesn't matter): 1")
    static void sheetOfNNumbers() {
        WhoseDelay x = many(5, 4, 9);
        for (int w = 0; w < 5; w++) {
            x.hurry(w, 1, 1);
        }
        int[] bits = {8, 16, 32};
        for (int b : bits) {
            due("sheet(0, " + b + ", 5)", x.sheet(0, b, 5), 1);
            due("proves(0, 9, 0), all are 0", x.proves(0, 9, 0), -1);
            for (int i = 0; i < 5; i++) {
                x.put(0, i, 7);
            }
            due("proves(0, 9, 0), none is 0", x.proves(0, 9, 0), 0);
            due("sheet(0, " + b + ", 5) again", x.sheet(0, b, 5), 1);
            due("proves(0, 9, 0), all are 0 again", x.proves(0, 9, 0), -1);
        }
        due("sheet(0, 8, 0), without numbers", x.sheet(0, 8, 0), 1);
        due("put(0, 0, 1)", x.put(0, 0, 1), BEYOND);
        int[] any = {0, 1, 24, 25, -1, MIN, MAX};
        for (int n : any) {
            x.sheet(0, 8, 1);
            due("sheet(0, 0, " + n + ")", x.sheet(0, 0, n), 1);
            due("put(0, 0, 1), missing", x.put(0, 0, 1), NONE);
        }
        due("sheet(3, 0, 0) of one that is missing", x.sheet(3, 0, 0), 1);
        // What a greater one leaves behind is 0 when it has come and gone.
        x.sheet(1, 8, 24);
        x.put(1, 4, 9);
        x.sheet(1, 8, 1);
        x.sheet(1, 8, 5);
        due("proves(1, 9, 0), all are 0", x.proves(1, 9, 0), -1);
    }

    @Says(in = "Promise 33", text = "BEYOND")
    static void sheetBeyond() {
        WhoseDelay x = new WhoseDelay();
        allAre("no such sheet", BEYOND, x.sheet(-1, 8, 1), x.sheet(4, 8, 1), x.sheet(MIN, 8, 1), x.sheet(MAX, 8, 1), x.sheet(4, 0, 0));
        allAre("no such bits", BEYOND, x.sheet(0, 1, 1), x.sheet(0, 7, 1), x.sheet(0, 9, 1), x.sheet(0, 24, 1), x.sheet(0, 64, 1), x.sheet(0, -8, 1), x.sheet(0, MIN, 1), x.sheet(0, MAX, 1));
        allAre("no such n", BEYOND, x.sheet(0, 8, 25), x.sheet(0, 16, 25), x.sheet(0, 32, 25), x.sheet(0, 8, MAX));
        due("put(0, 0, 0), it is still missing", x.put(0, 0, 0), NONE);
    }

    @Says(in = "Promise 33", text = "STATE: n is below 0 (ahead of BEYOND of n)")
    static void sheetState() {
        WhoseDelay x = new WhoseDelay();
        int[] bits = {8, 16, 32};
        for (int b : bits) {
            allAre("n below 0", STATE, x.sheet(0, b, -1), x.sheet(3, b, -25), x.sheet(0, b, MIN));
        }
        allAre("n below 0, of no such sheet or bits", BEYOND, x.sheet(4, 8, -1), x.sheet(-1, 8, -1), x.sheet(0, 9, -1), x.sheet(0, -1, -1));
        due("sheet(0, 0, -1), where n doesn't matter", x.sheet(0, 0, -1), 1);
        due("found(3)", x.found(3), 9);
    }

    @Says(in = "Promise 34", text = "Number i of a SHEET becomes v (its lowest bits): 1")
    static void putLowestBits() {
        int[] bits = {8, 16, 32};
        int[] vs = {0, 1, 2, 255, 256, 257, 258, 65535, 65536, 65537, 1 << 24, -256, -255, MIN, MIN + 2, MAX};
        for (int b : bits) {
            WhoseDelay x = with(4, 9);
            x.hurry(0, 2, 5);
            x.sheet(0, b, 1);
            for (int v : vs) {
                due("put(0, 0, " + v + ")", x.put(0, 0, v), 1);
                long low = b == 32 ? v : v & (1L << b) - 1;
                due("proves(0, 9999, 4) of " + v + " in " + b + " bits", x.proves(0, 9999, 4), low < 0 || low > 2 ? 0 : low == 0 ? -1 : 101);
                due("proves(0, 9999, 5) of " + v + " in " + b + " bits", x.proves(0, 9999, 5), low < 0 || low > 2 ? 0 : low < 2 ? -1 : 101);
            }
        }
        WhoseDelay y = new WhoseDelay();
        y.sheet(3, 16, 24);
        due("put(3, 0, 1), the first", y.put(3, 0, 1), 1);
        due("put(3, 23, 1), the last", y.put(3, 23, 1), 1);
    }

    @Says(in = "Promise 34", text = "BEYOND: no such SHEET")
    static void putNoSuchSheet() {
        WhoseDelay x = new WhoseDelay();
        allAre("put", BEYOND, x.put(-1, 0, 0), x.put(4, 0, 0), x.put(MIN, 0, 0), x.put(MAX, 0, 0));
    }

    @Says(in = "Promise 34", text = "NONE: it is missing")
    static void putMissing() {
        WhoseDelay x = new WhoseDelay();
        allAre("put at first", NONE, x.put(0, 0, 0), x.put(1, 24, 0), x.put(2, -1, 0), x.put(3, MAX, 0));
        x.sheet(0, 8, 1);
        x.sheet(0, 0, 1);
        due("put(0, 0, 0), missing again", x.put(0, 0, 0), NONE);
    }

    @Says(in = "Promise 34", text = "BEYOND: no such number")
    static void putNoSuchNumber() {
        WhoseDelay x = new WhoseDelay();
        x.sheet(0, 8, 24);
        allAre("put to 24", BEYOND, x.put(0, -1, 0), x.put(0, 24, 0), x.put(0, MIN, 0), x.put(0, MAX, 0));
        x.sheet(0, 8, 1);
        allAre("put to 1", BEYOND, x.put(0, 1, 0), x.put(0, 23, 0));
        x.sheet(0, 8, 0);
        allAre("put to none", BEYOND, x.put(0, 0, 0), x.put(0, -1, 0));
    }

    /** Five that may be hurried at 1, 3, 9, 27, 81: a sum tells of all numbers of a row of five. */
    private static WhoseDelay movers(int bits, int... numbers) {
        WhoseDelay x = many(5, 4, 9);
        int price = 1;
        for (int w = 0; w < 5; w++) {
            x.hurry(w, 2, price);
            price *= 3;
        }
        x.sheet(0, bits, 5);
        x.sheet(1, bits, 5);
        for (int i = 0; i < 5; i++) {
            x.put(0, i, numbers[i]);
        }
        return x;
    }

    private static void row(WhoseDelay x, int sheet, int... numbers) {
        int want = 0;
        int price = 1;
        for (int number : numbers) {
            want += number * price;
            price *= 3;
        }
        due("the sum of SHEET " + sheet, sum(x, sheet, 128), want);
    }

    @Says(in = "Promise 35", text = "n numbers of a SHEET, from number i on, come to another one (or the same), from its number j on, as they all were: n")
    static void moveAsTheyWere() {
        int[] bits = {8, 16, 32};
        for (int b : bits) {
            WhoseDelay x = movers(b, 0, 1, 2, 1, 0);
            due("move of all", x.move(0, 0, 1, 0, 5), 5);
            row(x, 1, 0, 1, 2, 1, 0);
            due("move of the last to the first", x.move(0, 3, 1, 0, 2), 2);
            row(x, 1, 1, 0, 2, 1, 0);
            due("move of the first to the last", x.move(0, 0, 1, 3, 2), 2);
            row(x, 1, 1, 0, 2, 0, 1);
            row(x, 0, 0, 1, 2, 1, 0);
            due("move upwards in the same", x.move(0, 0, 0, 1, 4), 4);
            row(x, 0, 0, 0, 1, 2, 1);
            due("move downwards in the same", x.move(0, 1, 0, 0, 4), 4);
            row(x, 0, 0, 1, 2, 1, 1);
            due("move to where they are", x.move(0, 0, 0, 0, 5), 5);
            row(x, 0, 0, 1, 2, 1, 1);
            due("move by two upwards", x.move(0, 0, 0, 2, 3), 3);
            row(x, 0, 0, 1, 0, 1, 2);
        }
        WhoseDelay y = movers(8, 2, 2, 2, 2, 2);
        due("move of none", y.move(0, 0, 1, 0, 0), 0);
        due("move of none from and to the ends", y.move(0, 5, 1, 5, 0), 0);
        row(y, 1, 0, 0, 0, 0, 0);
        y.sheet(2, 8, 24);
        y.sheet(3, 8, 24);
        due("move of 24", y.move(2, 0, 3, 0, 24), 24);
        due("move of one, last to last", y.move(2, 23, 3, 23, 1), 1);
    }

    @Says(in = "Promise 35", text = "BEYOND: no such SHEET")
    static void moveNoSuchSheet() {
        WhoseDelay x = movers(8, 0, 0, 0, 0, 0);
        allAre("move from", BEYOND, x.move(-1, 0, 1, 0, 1), x.move(4, 0, 1, 0, 1), x.move(MIN, 0, 1, 0, 1), x.move(MAX, 0, 1, 0, 1));
        allAre("move to", BEYOND, x.move(0, 0, -1, 0, 1), x.move(0, 0, 4, 0, 1), x.move(0, 0, MIN, 0, 1), x.move(0, 0, MAX, 0, 1));
    }

    @Says(in = "Promise 35", text = "NONE: one is missing")
    static void moveMissing() {
        WhoseDelay x = movers(8, 0, 0, 0, 0, 0);
        allAre("move", NONE, x.move(0, 0, 2, 0, 1), x.move(2, 0, 0, 0, 1), x.move(2, 0, 3, 0, 1), x.move(2, 0, 2, 0, 0), x.move(0, 0, 3, 0, 0));
    }

    @Says(in = "Promise 35", text = "KIND: they are of unlike bits")
    static void moveUnlike() {
        WhoseDelay x = movers(8, 0, 0, 0, 0, 0);
        x.sheet(2, 16, 5);
        x.sheet(3, 32, 5);
        int[][] pairs = {{0, 2}, {0, 3}, {2, 0}, {2, 3}, {3, 0}, {3, 2}};
        for (int[] pair : pairs) {
            due("move(" + pair[0] + ", 0, " + pair[1] + ", 0, 1)", x.move(pair[0], 0, pair[1], 0, 1), KIND);
            due("move(" + pair[0] + ", 0, " + pair[1] + ", 0, 0)", x.move(pair[0], 0, pair[1], 0, 0), KIND);
        }
        for (int s = 0; s < 4; s++) {
            due("move(" + s + ", 0, " + s + ", 0, 1)", x.move(s, 0, s, 0, 1), 1);
        }
    }

    @Says(in = "Promise 35", text = "BEYOND: n, i, or j is below 0, or they don't stand there")
    static void moveBeyond() {
        WhoseDelay x = movers(8, 1, 1, 1, 1, 1);
        x.sheet(2, 8, 3);
        allAre("n below 0", BEYOND, x.move(0, 0, 1, 0, -1), x.move(0, 3, 1, 3, -1), x.move(0, 0, 1, 0, MIN));
        allAre("i below 0", BEYOND, x.move(0, -1, 1, 0, 1), x.move(0, -1, 1, 0, 0), x.move(0, MIN, 1, 0, 1));
        allAre("j below 0", BEYOND, x.move(0, 0, 1, -1, 1), x.move(0, 0, 1, -1, 0), x.move(0, 0, 1, MIN, 1));
        allAre("they don't stand in the one", BEYOND, x.move(0, 0, 1, 0, 6), x.move(0, 5, 1, 0, 1), x.move(0, 4, 1, 0, 2), x.move(0, 6, 1, 0, 0), x.move(0, MAX, 1, 0, 1), x.move(2, 0, 0, 0, 4));
        allAre("they don't stand in the other", BEYOND, x.move(0, 0, 1, 5, 1), x.move(0, 0, 1, 4, 2), x.move(0, 0, 1, 6, 0), x.move(0, 0, 1, MAX, 1), x.move(0, 0, 2, 0, 4));
        allAre("sums that go round", BEYOND, x.move(0, 1, 1, 0, MAX), x.move(0, MAX, 1, MAX, MAX), x.move(0, MAX, 1, 0, MIN), x.move(0, MIN, 1, MIN, MIN));
        row(x, 1, 0, 0, 0, 0, 0);
        row(x, 0, 1, 1, 1, 1, 1);
    }

    @Says(in = "Promise 36", text = "is kept as an IMAGE, in place of one ahead: how often that was done")
    static void imageInPlaceOfOneAhead() {
        WhoseDelay x = new WhoseDelay();
        for (int i = 1; i <= 100; i++) {
            x.today(i);
            due("image()", x.image(), i);
        }
        x.today(900);
        due("restore(), the latest", x.restore(), 100);
        due("image() behind restore()", x.image(), 101);
        x.today(200);
        due("restore()", x.restore(), 100);
    }

    @Says(in = "Promise 36", text = "All (but SHEETS, THE TRACE, what found() tells, and how often this was done)")
    static void imageOfAllBut() {
        WhoseDelay x = with(3, 7);
        x.image();
        x.sheet(0, 8, 1);
        x.voice(0, 3, 0);
        x.back(7);
        x.trace(99);
        x.image();
        due("restore()", x.restore(), 0);
        due("put(0, 0, 1), the SHEET is as it was", x.put(0, 0, 1), 1);
        traced(x, "31 13 11 41 30 10 40 12");
        due("found(1)", x.found(1), 1);
        due("found(2), behind two trace() of none", x.found(2), 2);
        due("image()", x.image(), 3);
        // A SHEET, a TRACE, findings that were there when the IMAGE was made stay as they are since.
        x.sheet(0, 0, 0);
        x.voice(0, 2, 0);
        x.back(7);
        due("restore()", x.restore(), 0);
        due("put(0, 0, 1), the SHEET is missing since", x.put(0, 0, 1), NONE);
        traced(x, "40 12");
        due("found(1)", x.found(1), 2);
    }

    private static final String AS_THE_IMAGE = "All is as the IMAGE has it, which stays: TODAY";

    /** The fullest there can be, all made otherwise, and as it was again. */
    @Says(in = "Promise 37", text = AS_THE_IMAGE)
    static void restoreTheFullest() {
        for (int times = 1; times <= 2; times++) {
            WhoseDelay x = full();
            due("image()", x.image(), 1);
            for (int i = 0; i < times; i++) {
                spoilTheFullest(x);
                due("restore()", x.restore(), 30);
            }
            WhoseDelay y = full();
            y.image();
            due("all that is read behind restore()", readOut(x, fullLinks()), readOut(y, fullLinks()));
        }
    }

    private static void spoilTheFullest(WhoseDelay x) {
        x.calm();
        for (int w = 0; w < 16; w += 5) {
            x.edit(w, 1);
        }
        x.unlink(0, 1);
        x.unlink(0, 3);
        x.link(0, 15, 3);
        x.week(1);
        x.rain(100, 60, true);
        x.notice(0, 30);
        x.today(900);
        x.back(1);
        x.hurry(0, 1, 1);
    }

    /** What can still become more does, and what can be otherwise is. */
    @Says(in = "Promise 37", text = AS_THE_IMAGE)
    static void restoreWhatBecameMore() {
        for (int times = 1; times <= 2; times++) {
            WhoseDelay x = rich();
            due("image()", x.image(), 2);
            for (int i = 0; i < times; i++) {
                spoil(x);
                due("restore()", x.restore(), 15);
            }
            WhoseDelay y = rich();
            y.image();
            // THE TRACE is of the latest voice(), and no IMAGE keeps it.
            y.voice(6, 3, 1);
            due("all that is read behind restore()", readOut(x, RICH_LINKS), readOut(y, RICH_LINKS));
        }
    }

    private static void spoil(WhoseDelay x) {
        x.work(5, 40);
        x.edit(1, 40);
        x.calm();
        x.hurry(4, 1, 1);
        x.hurry(3, 2, 999);
        x.hurry(1, 1, 1);
        for (int[] link : RICH_LINKS) {
            x.unlink(link[0], link[1]);
            x.link(link[0], link[1], 20 - link[2]);
            x.unlink(link[0], link[1]);
            x.link(link[1], link[0], link[2]);
        }
        x.week(1);
        x.rain(0, 60, true);
        x.rain(4, 1, false);
        x.rain(898, 1, false);
        x.notice(2, 13);
        x.today(700);
        x.back(0);
        x.event(72, 600, 30);
        clauseOf(x, 0, 0, "");
        clauseOf(x, 1, 1, "9999");
        feedText(x, "))))");
        x.voice(6, 3, 1);
    }

    @Says(in = "Promise 37", text = AS_THE_IMAGE)
    static void restoreTheLastDayOfRain() {
        WhoseDelay x = with(1, 1);
        for (int day = 0; day < 900; day += 60) {
            x.rain(day, 60, true);
        }
        x.rain(899, 1, false);
        x.image();
        x.rain(899, 1, true);
        due("end(0) with RAIN on all days", x.end(0), 901);
        x.restore();
        due("end(0) without RAIN on the last", x.end(0), 900);
        due("told(6)", x.told(6), 899);
    }

    @Says(in = "Promise 37", text = AS_THE_IMAGE)
    static void restoreNothing() {
        WhoseDelay x = new WhoseDelay();
        x.image();
        x.work(0, 1);
        x.work(4, 1);
        x.link(0, 1, 9);
        x.today(900);
        x.event(0, 0, 1);
        x.notice(0, 9);
        x.week(1);
        x.rain(0, 60, true);
        due("restore() of an empty one", x.restore(), 0);
        for (int what = 0; what <= 9; what++) {
            due("told(" + what + ")", x.told(what), 0);
        }
        due("week(31)", x.week(31), 31);
        // What comes now has nothing of what was there.
        x.work(1, 3);
        x.work(1, 2);
        due("plan(0, 1, 0)", x.plan(0, 1, 0), 0);
        due("unlink(0, 1)", x.unlink(0, 1), NONE);
        due("end(0)", x.end(0), 3);
        due("voice(0, 0, 0)", x.voice(0, 0, 0), 3);
        x.event(0, 0, 1);
        due("of(0, 4)", x.of(0, 4), -1);
        due("of(0, 5)", x.of(0, 5), 0);
    }

    @Says(in = "Promise 37", text = "NONE: there is none")
    static void restoreNone() {
        WhoseDelay x = rich();
        WhoseDelay y = richWithoutImage();
        due("restore() of one", x.restore(), 12);
        due("restore() of none", y.restore(), NONE);
        due("told(0)", y.told(0), 7);
        due("restore() again", y.restore(), NONE);
        due("found(2)", y.found(2), 2);
        due("image()", y.image(), 1);
        due("restore()", y.restore(), 12);
    }

    @Says(in = "Promise 38", text = "0 WORKS, 1 LINKS, 2 EVENTS, 3 those KNOWN TODAY, 4 CLAUSES, 5 TODAY, 6 days of RAIN, 7 bytes of THE TAPE, 8 how many may be HURRIED, 9 BODIES in THE TRACE")
    static void toldOfAll() {
        WhoseDelay x = full();
        for (int day = 0; day < 900; day += 60) {
            x.rain(day, 60, true);
        }
        x.today(900);
        x.back(3);
        int[] most = {16, 30, 20, 19, 10, 900, 900, 60, 5, 0};
        for (int what = 0; what <= 9; what++) {
            due("told(" + what + ")", x.told(what), most[what]);
        }
        WhoseDelay y = with(5, 7);
        y.voice(0, 3, 0);
        due("told(9), the most", y.told(9), 10);
    }

    @Says(in = "Promise 38", text = "BEYOND")
    static void toldBeyond() {
        WhoseDelay x = new WhoseDelay();
        allAre("told of no such what", BEYOND, x.told(-1), x.told(10), x.told(MIN), x.told(MAX));
    }

    @Says(in = "Promise 39", text = "How many acts have answered a finding LOW - k (k 1 .. 5)")
    static void foundHowMany() {
        WhoseDelay x = with(5, 9);
        for (int i = 1; i <= 5; i++) {
            x.end(-1);
            x.trace(0);
            x.trace(0);
            x.sheet(0, 8, -1);
            x.as(0, 1);
            due("found(1)", x.found(1), i);
            due("found(2)", x.found(2), 2 * i);
            due("found(3)", x.found(3), i);
            due("found(4)", x.found(4), 0);
            due("found(5)", x.found(5), i);
        }
        feedText(x, "1".repeat(60));
        x.feed(1, 1);
        due("found(4)", x.found(4), 1);
        x.image();
        x.feed(1, 1);
        x.restore();
        due("found(4), which no IMAGE keeps", x.found(4), 2);
    }

    @Says(in = "Promise 39", text = "BEYOND: another k (counted, too)")
    static void foundBeyond() {
        WhoseDelay x = new WhoseDelay();
        int[] others = {0, 6, -1, LOW - 1, MIN, MAX};
        for (int i = 0; i < others.length; i++) {
            due("found(" + others[i] + ")", x.found(others[i]), BEYOND);
            due("found(1)", x.found(1), i + 1);
        }
    }
}
