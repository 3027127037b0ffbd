/** Promises 22 to 30: the contract, and hurry. */
public final class EdgesOfContractTest extends Edges {
    public static void main(String[] args) throws Exception {
        run(EdgesOfContractTest.class);
    }

    // ---- promises 22 to 26: the contract

    @Says(in = "Promise 22", text = "The n lowest bytes (1 .. 8) of a word, the lowest first, come to THE TAPE: how many there are")
    static void feedLowestBytesFirst() {
        for (int n = 1; n <= 8; n++) {
            WhoseDelay x = events(1);
            due("feed(.., " + n + ")", x.feed(0x382B372B362B352BL << 8 | '4', n), n);
            // "4+5+6+7+" to "4": what ends with a + is ended by a 9.
            if (n % 2 == 0) {
                due("feed of a 9", x.feed('9', 1), n + 1);
            }
            due("clause(1, 0)", x.clause(1, 0), 0);
            int[] values = {4, 13, 9, 18, 15, 24, 22, 31};
            due("says(1, 0)", x.says(1, 0), values[n - 1]);
        }
        // A word below 0 is bytes as any other.
        WhoseDelay y = new WhoseDelay();
        due("feed(-1, 8)", y.feed(-1L, 8), 8);
        due("clause(0, 0) of bytes 255", y.clause(0, 0), -10);
        due("feed of 1+1+1+1 and 128", y.feed(0x80312B312B312B31L, 8), 8);
        due("clause(0, 0) of it", y.clause(0, 0), -17);
        due("feed(Long.MIN_VALUE, 1), its lowest byte being 0", y.feed(Long.MIN_VALUE, 1), 1);
        due("clause(0, 0) of a byte 0", y.clause(0, 0), -10);
    }

    @Says(in = "Promise 22", text = "BEYOND")
    static void feedBeyond() {
        WhoseDelay x = new WhoseDelay();
        allAre("feed of no such n", BEYOND, x.feed(1, 0), x.feed(1, 9), x.feed(1, -1), x.feed(1, MIN), x.feed(1, MAX), x.feed(Long.MAX_VALUE, 64));
        due("told(7)", x.told(7), 0);
    }

    @Says(in = "Promise 22", text = "FULL")
    static void feedFull() {
        for (int n = 1; n <= 8; n++) {
            WhoseDelay x = new WhoseDelay();
            feedText(x, "1".repeat(60 - n));
            if (n < 8) {
                due("feed of " + (n + 1) + " to " + (60 - n), x.feed(-1, n + 1), FULL);
            }
            due("told(7)", x.told(7), 60 - n);
            due("feed of " + n + " to " + (60 - n), x.feed(-1, n), 60);
            due("feed of 1 to 60", x.feed(-1, 1), FULL);
            due("feed of 8 to 60", x.feed(-1, 8), FULL);
        }
    }

    @Says(in = "Promise 23", text = "THE TAPE, which is empty then, is a CLAUSE of a USE for days from one on (0 .. 900): its number")
    static void clauseAnswersItsNumber() {
        WhoseDelay x = with(4, 5);
        x.today(900);
        x.event(0, 0, 1);
        x.event(0, 900, 1);
        due("clause(1, 900)", clauseOf(x, 1, 900, "7"), 0);
        due("told(7)", x.told(7), 0);
        due("force(1, 0)", x.force(1, 0), NONE);
        due("force(1, 1)", x.force(1, 1), 0);
        due("clause(1, 0)", clauseOf(x, 1, 0, "8"), 1);
        due("force(1, 0)", x.force(1, 0), 1);
        due("force(1, 1)", x.force(1, 1), 1);
        for (int c = 2; c < 10; c++) {
            due("clause", clauseOf(x, 0, 0, "1"), c);
        }
        due("told(4)", x.told(4), 10);
    }

    @Says(in = "Promise 23", text = "-10 less its FAULT")
    static void clauseAnswersItsFault() {
        WhoseDelay x = events(1);
        due("clause of an empty TAPE", x.clause(0, 0), -10);
        due("clause of x", clauseOf(x, 0, 0, "x"), -10);
        due("told(7), it is empty then", x.told(7), 0);
        due("clause of 1x", clauseOf(x, 0, 0, "1x"), -11);
        due("clause of 60 that end too early", clauseOf(x, 0, 0, "1+".repeat(30)), -70);
        due("told(7)", x.told(7), 0);
        due("told(4)", x.told(4), 0);
        due("force(0, 0)", x.force(0, 0), NONE);
        for (int k = 1; k <= 4; k++) {
            due("found(" + k + "), a FAULT is no finding", x.found(k), k == 2 ? 1 : 0);
        }
        due("clause of 1", clauseOf(x, 0, 0, "1"), 0);
    }

    @Says(in = "Promise 23", text = "BEYOND, FULL (THE TAPE stays in both)")
    static void clauseBeyondAndFull() {
        WhoseDelay x = events(1);
        feedText(x, "d+4");
        allAre("clause of no such USE", BEYOND, x.clause(2, 0), x.clause(-1, 0), x.clause(MIN, 0), x.clause(MAX, 0));
        allAre("clause from no such day", BEYOND, x.clause(1, -1), x.clause(1, 901), x.clause(1, MIN), x.clause(1, MAX));
        due("told(7), it stays", x.told(7), 3);
        due("clause(1, 0) of what stayed", x.clause(1, 0), 0);
        due("says(1, 0)", x.says(1, 0), 5);
        for (int c = 1; c < 10; c++) {
            clauseOf(x, 0, 0, "1");
        }
        feedText(x, "x");
        due("clause(0, 0) when there are 10", x.clause(0, 0), FULL);
        due("told(7), it stays", x.told(7), 1);
        x.image();
        due("feed to what stayed", x.feed('x', 1), 2);
    }

    @Says(in = "Promise 24", text = "What a USE says of an EVENT: 0 RISK (0, 1, 2), 1 PRICE")
    static void saysOfAnEvent() {
        WhoseDelay x = with(4, 5);
        for (int e = 0; e < 20; e++) {
            x.event(e % 4, 0, 1 + e);
        }
        due("says(0, 19) without a CLAUSE", x.says(0, 19), 1);
        due("says(1, 19) without a CLAUSE", x.says(1, 19), 100);
        clauseOf(x, 0, 0, "d-1");
        clauseOf(x, 1, 0, "d*d*26");
        for (int e = 0; e < 20; e++) {
            due("says(0, " + e + ")", x.says(0, e), Math.min(e, 2));
            due("says(1, " + e + ")", x.says(1, e), Math.min((e + 1) * (e + 1) * 26, 9999));
        }
    }

    @Says(in = "Promise 24", text = "BEYOND")
    static void saysBeyond() {
        WhoseDelay x = events(1);
        allAre("says of no such USE", BEYOND, x.says(2, 0), x.says(-1, 0), x.says(MIN, 0), x.says(MAX, 0));
        allAre("says of no such EVENT", BEYOND, x.says(0, 1), x.says(1, 1), x.says(0, -1), x.says(1, 20), x.says(0, MIN), x.says(1, MAX));
    }

    @Says(in = "Promise 25", text = "The CLAUSE of a USE in force for an EVENT")
    static void forceOfClauses() {
        WhoseDelay x = events(1);
        for (int c = 0; c < 10; c++) {
            clauseOf(x, c < 5 ? 0 : 1, 0, "1");
            due("force(0, 0)", x.force(0, 0), Math.min(c, 4));
            due("force(1, 0)", x.force(1, 0), c < 5 ? NONE : c);
        }
    }

    @Says(in = "Promise 25", text = "BEYOND")
    static void forceBeyond() {
        WhoseDelay x = events(1);
        clauseOf(x, 0, 0, "1");
        allAre("force of no such USE", BEYOND, x.force(2, 0), x.force(-1, 0), x.force(MIN, 0), x.force(MAX, 0));
        allAre("force of no such EVENT", BEYOND, x.force(0, 1), x.force(0, -1), x.force(0, 20), x.force(0, MIN), x.force(0, MAX));
    }

    @Says(in = "Promise 25", text = "NONE")
    static void forceNone() {
        WhoseDelay x = with(4, 5);
        x.today(9);
        x.event(0, 8, 1);
        x.event(0, 9, 1);
        allAre("force without CLAUSES", NONE, x.force(0, 0), x.force(1, 1));
        clauseOf(x, 0, 9, "1");
        due("force(0, 0), a day ahead of it", x.force(0, 0), NONE);
        due("force(0, 1)", x.force(0, 1), 0);
        due("force(1, 1), the other USE", x.force(1, 1), NONE);
    }

    @Says(in = "Promise 26", text = "0 GRANTED, 1 DUE, 2 PAID, 3 LATE, 4 EVENTS KNOWN TODAY with TIME, as bits, 5 those that are TWO AT ONCE, as bits")
    static void claims() {
        WhoseDelay x = with(4, 5);
        int[] none = {0, 5, 0, 0, 0, 0};
        for (int what = 0; what < 6; what++) {
            due("claim(" + what + ") without EVENTS", x.claim(what), none[what]);
        }
        for (int e = 0; e < 20; e++) {
            x.event(e % 4, 0, 1);
        }
        // Of each CAUSE five: 15 with TIME, 5 with PAY, all TWO AT ONCE.
        int[] all = {15, 20, 500, 5, 0xDDDDD, 0xFFFFF};
        for (int what = 0; what < 6; what++) {
            due("claim(" + what + ") of 20", x.claim(what), all[what]);
        }
        x.today(1);
        for (int e = 0; e < 20; e++) {
            x.back(e);
        }
        for (int what = 0; what < 6; what++) {
            due("claim(" + what + ") of 20 TAKEN BACK", x.claim(what), none[what]);
        }
    }

    @Says(in = "Promise 26", text = "BEYOND")
    static void claimBeyond() {
        WhoseDelay x = events(1);
        allAre("claim of no such what", BEYOND, x.claim(-1), x.claim(6), x.claim(MIN), x.claim(MAX));
    }

    // ---- promises 27 to 30: hurry

    @Says(in = "Promise 27", text = "A WORK may be HURRIED: how many may")
    static void hurryAnswersHowMany() {
        WhoseDelay x = many(16, 0, 3);
        int[] works = {15, 0, 7, 3, 8};
        for (int i = 0; i < 5; i++) {
            due("hurry(" + works[i] + ", 2, 999)", x.hurry(works[i], 2, 999), i + 1);
            due("told(8)", x.told(8), i + 1);
        }
        due("end(0), it only may", x.end(0), 3);
    }

    @Says(in = "Promise 27", text = "BEYOND: no such WORK, most (1, 2), price")
    static void hurryBeyond() {
        WhoseDelay x = with(4, 9);
        allAre("hurry of no such WORK", BEYOND, x.hurry(1, 1, 1), x.hurry(-1, 1, 1), x.hurry(MIN, 1, 1), x.hurry(MAX, 1, 1));
        allAre("hurry of no such most", BEYOND, x.hurry(0, 0, 1), x.hurry(0, 3, 1), x.hurry(0, -1, 1), x.hurry(0, MIN, 1), x.hurry(0, MAX, 1));
        allAre("hurry of no such price", BEYOND, x.hurry(0, 1, 0), x.hurry(0, 1, 1000), x.hurry(0, 1, -1), x.hurry(0, 1, MIN), x.hurry(0, 1, MAX));
        due("told(8)", x.told(8), 0);
    }

    @Says(in = "Promise 27", text = "KIND: it is a CURING")
    static void hurryKind() {
        for (int kind = 0; kind < 6; kind++) {
            due("hurry(0, 1, 1) of kind " + kind, with(kind, 9).hurry(0, 1, 1), kind == 5 ? KIND : 1);
        }
    }

    @Says(in = "Promise 27", text = "STATE: it may already, or is not LONG above most")
    static void hurryState() {
        for (int days = 1; days <= 4; days++) {
            due("hurry(0, 1, 1) of " + days + " days", with(4, days).hurry(0, 1, 1), days > 1 ? 1 : STATE);
            due("hurry(0, 2, 1) of " + days + " days", with(4, days).hurry(0, 2, 1), days > 2 ? 1 : STATE);
        }
        WhoseDelay x = with(4, 9, 9);
        x.hurry(0, 1, 5);
        due("hurry(0, 1, 5), it may already", x.hurry(0, 1, 5), STATE);
        due("hurry(0, 2, 9), it may already", x.hurry(0, 2, 9), STATE);
        due("told(8)", x.told(8), 1);
        due("least(9, -1)", x.least(9, -1), 0);
        x.calm();
        due("hurry(0, 2, 9), it may no more", x.hurry(0, 2, 9), 1);
        // LONG is what it is by now, without EVENTS.
        WhoseDelay y = with(4, 9);
        y.event(0, 0, 30);
        y.edit(0, 1);
        due("hurry(0, 1, 1) of one edited to a day", y.hurry(0, 1, 1), STATE);
        y.edit(0, 2);
        due("hurry(0, 1, 1) of one edited to two days", y.hurry(0, 1, 1), 1);
    }

    @Says(in = "Promise 27", text = "FULL")
    static void hurryFull() {
        WhoseDelay x = many(6, 4, 9);
        for (int w = 0; w < 5; w++) {
            x.hurry(w, 1, 1);
        }
        due("a sixth", x.hurry(5, 1, 1), FULL);
        due("told(8)", x.told(8), 5);
        x.calm();
        due("a first again", x.hurry(5, 1, 1), 1);
    }

    @Says(in = "Promise 28", text = "Nothing may be HURRIED any more: how many could")
    static void calmAnswersHowManyCould() {
        WhoseDelay x = many(5, 4, 9);
        due("calm() when none could", x.calm(), 0);
        for (int w = 0; w < 5; w++) {
            x.hurry(w, 2, 1);
        }
        due("least(7, -1)", x.least(7, -1), 10);
        due("calm() when five could", x.calm(), 5);
        due("calm() again", x.calm(), 0);
        due("told(8)", x.told(8), 0);
        due("least(7, -1)", x.least(7, -1), NONE);
        due("least(9, 0)", x.least(9, 0), BEYOND);
        due("edit(0, 1)", x.edit(0, 1), 9);
        for (int k = 1; k <= 5; k++) {
            due("found(" + k + "), calm() answers no finding", x.found(k), k <= 2 ? 1 : 0);
        }
    }

    @Says(in = "Promise 29", text = "THE LEAST for a day: what -1 its sum; i by how much the i-th is HURRIED")
    static void leastOfFive() {
        WhoseDelay x = inRow(many(5, 4, 40));
        for (int w = 0; w < 5; w++) {
            x.hurry(w, 2, 995 + w);
        }
        due("least(200, -1)", x.least(200, -1), 0);
        due("least(199, -1)", x.least(199, -1), 995);
        due("least(199, 0)", x.least(199, 0), 1);
        due("least(190, -1), all of them", x.least(190, -1), 2 * (995 + 996 + 997 + 998 + 999));
        due("least(191, -1), all but a day", x.least(191, -1), 2 * (995 + 996 + 997 + 998) + 999);
        for (int i = 0; i < 5; i++) {
            due("least(190, " + i + ")", x.least(190, i), 2);
            due("least(191, " + i + ")", x.least(191, i), i < 4 ? 2 : 1);
            due("least(9999, " + i + ")", x.least(9999, i), 0);
        }
        due("least(189, -1)", x.least(189, -1), NONE);
    }

    @Says(in = "Promise 29", text = "BEYOND: day, what")
    static void leastBeyond() {
        WhoseDelay x = with(4, 9, 9);
        due("least(9, 0) when none may", x.least(9, 0), BEYOND);
        x.hurry(0, 1, 1);
        due("least(9, 0) when one may", x.least(9, 0), 0);
        allAre("least of no such day", BEYOND, x.least(-1, -1), x.least(10000, -1), x.least(MIN, 0), x.least(MAX, 0));
        allAre("least of no such what", BEYOND, x.least(9, 1), x.least(9, -2), x.least(9, MIN), x.least(9, MAX));
    }

    @Says(in = "Promise 29", text = "NONE: it can't be")
    static void leastNone() {
        WhoseDelay x = with(4, 9);
        due("least(8, -1) when none may", x.least(8, -1), NONE);
        x.hurry(0, 2, 3);
        due("least(7, -1)", x.least(7, -1), 6);
        due("least(6, -1)", x.least(6, -1), NONE);
        due("least(6, 0)", x.least(6, 0), NONE);
        due("least(0, 0)", x.least(0, 0), NONE);
        x.work(4, 8);
        due("least(7, -1) with one that may not", x.least(7, -1), NONE);
        due("least(8, -1) with one that may not", x.least(8, -1), 3);
        // After one that can be, what can't be is told of itself.
        due("least(7, 0)", x.least(7, 0), NONE);
    }

    /** Two in a row of 9 days, by 2 days for 3 and by 1 day for 10, and a SHEET of so many numbers. */
    private static WhoseDelay toProve(int bits, int... numbers) {
        WhoseDelay x = inRow(with(4, 9, 9));
        x.hurry(0, 2, 3);
        x.hurry(1, 1, 10);
        x.sheet(2, bits, numbers.length);
        for (int i = 0; i < numbers.length; i++) {
            x.put(2, i, numbers[i]);
        }
        return x;
    }

    @Says(in = "Promise 30", text = "By the numbers of a SHEET, by how much each is HURRIED: whether THE END is a day or ahead, at a sum of v at most: -1 it is")
    static void provesThatItIs() {
        WhoseDelay x = toProve(8, 2, 1);
        due("proves(2, 15, 16)", x.proves(2, 15, 16), -1);
        due("proves(2, 16, 17)", x.proves(2, 16, 17), -1);
        due("proves(2, 9999, MAX)", x.proves(2, 9999, MAX), -1);
        due("proves(2, 18, 0) of none", toProve(8, 0, 0).proves(2, 18, 0), -1);
        // By EVENTS that are KNOWN TODAY.
        x.event(0, 0, 1);
        due("proves(2, 15, 16) with an EVENT", x.proves(2, 15, 16), 100);
        due("proves(2, 16, 16) with an EVENT", x.proves(2, 16, 16), -1);
        x.today(1);
        x.back(0);
        due("proves(2, 15, 16) with it TAKEN BACK", x.proves(2, 15, 16), -1);
        // Nothing may be HURRIED: a SHEET of no numbers proves it.
        WhoseDelay y = with(4, 9);
        y.sheet(0, 32, 0);
        due("proves(0, 9, 0)", y.proves(0, 9, 0), -1);
        due("proves(0, 8, 0)", y.proves(0, 8, 0), 100);
        WhoseDelay z = new WhoseDelay();
        z.sheet(0, 32, 0);
        due("proves(0, 0, 0) of no WORKS", z.proves(0, 0, 0), -1);
    }

    @Says(in = "Promise 30", text = "the place of the first number that can't be")
    static void provesTheFirstThatCantBe() {
        int[] bits = {8, 16, 32};
        for (int b : bits) {
            due("3, 0", toProve(b, 3, 0).proves(2, 9999, 99), 0);
            due("-1, 0", toProve(b, -1, 0).proves(2, 9999, 99), 0);
            due("3, 2", toProve(b, 3, 2).proves(2, 9999, 99), 0);
            due("2, 2", toProve(b, 2, 2).proves(2, 9999, 99), 1);
            due("0, -1", toProve(b, 0, -1).proves(2, 9999, 99), 1);
            due("0, 127", toProve(b, 0, 127).proves(2, 9999, 99), 1);
            due("0, 128", toProve(b, 0, 128).proves(2, 9999, 99), 1);
            due("2, 2, ahead of the day and the sum", toProve(b, 2, 2).proves(2, 0, 0), 1);
        }
        due("0, 257 of 8 bits", toProve(8, 0, 257).proves(2, 9999, 99), -1);
        due("0, 257 of 16 bits", toProve(16, 0, 257).proves(2, 9999, 99), 1);
        due("65536, 65537 of 16 bits", toProve(16, 65536, 65537).proves(2, 9999, 99), -1);
        due("65536, 65537 of 32 bits", toProve(32, 65536, 65537).proves(2, 9999, 99), 0);
        due("MIN, MAX of 32 bits", toProve(32, MIN, MAX).proves(2, 9999, 99), 0);
        due("MIN, MIN + 1 of 16 bits", toProve(16, MIN, MIN + 1).proves(2, 9999, 99), -1);
        due("0, MAX of 32 bits", toProve(32, 0, MAX).proves(2, 9999, 99), 1);
    }

    @Says(in = "Promise 30", text = "(or how many it has, if there are fewer of them than may be HURRIED, or more: how many may)")
    static void provesByHowManyThereAre() {
        due("none of two", toProve(8).proves(2, 9999, 99), 0);
        due("one of two", toProve(8, 0).proves(2, 9999, 99), 1);
        due("three of two", toProve(8, 0, 0, 0).proves(2, 9999, 99), 2);
        due("three of two, the third wrong too", toProve(8, 0, 0, 9).proves(2, 9999, 99), 2);
        due("one of two, and it can't be", toProve(8, 3).proves(2, 9999, 99), 0);
        due("three of two, and the first can't be", toProve(8, 3, 0, 0).proves(2, 9999, 99), 0);
        due("24 of two", toProve(8, new int[24]).proves(2, 9999, 99), 2);
        due("one of two, ahead of the day and the sum", toProve(8, 2).proves(2, 0, 0), 1);
        WhoseDelay x = with(4, 9);
        x.sheet(0, 8, 1);
        due("one of none", x.proves(0, 9999, 99), 0);
        x.sheet(0, 8, 24);
        due("24 of none", x.proves(0, 9999, 99), 0);
        WhoseDelay y = many(5, 4, 9);
        for (int w = 0; w < 5; w++) {
            y.hurry(w, 1, 1);
        }
        for (int n = 0; n <= 6; n++) {
            y.sheet(0, 8, n);
            due(n + " of five", y.proves(0, 9999, 99), n == 5 ? -1 : Math.min(n, 5));
        }
    }

    @Says(in = "Promise 30", text = "else 100 for the day, 101 for the sum (the day first)")
    static void provesDayThenSum() {
        WhoseDelay x = toProve(8, 2, 1);
        due("proves(2, 14, 16)", x.proves(2, 14, 16), 100);
        due("proves(2, 15, 15)", x.proves(2, 15, 15), 101);
        due("proves(2, 14, 15), the day first", x.proves(2, 14, 15), 100);
        due("proves(2, 0, 0)", x.proves(2, 0, 0), 100);
        due("proves(2, 9999, 0)", x.proves(2, 9999, 0), 101);
    }

    @Says(in = "Promise 30", text = "BEYOND: no such SHEET, day (0 .. 9999), v below 0")
    static void provesBeyond() {
        WhoseDelay x = toProve(8, 0, 0);
        allAre("proves by no such SHEET", BEYOND, x.proves(-1, 20, 0), x.proves(4, 20, 0), x.proves(MIN, 20, 0), x.proves(MAX, 20, 0));
        allAre("proves for no such day", BEYOND, x.proves(2, -1, 0), x.proves(2, 10000, 0), x.proves(2, MIN, 0), x.proves(2, MAX, 0));
        allAre("proves of no such sum", BEYOND, x.proves(2, 20, -1), x.proves(2, 20, MIN));
        due("proves(2, 9999, 0)", x.proves(2, 9999, 0), -1);
        due("proves(2, 0, MAX)", x.proves(2, 0, MAX), 100);
    }

    @Says(in = "Promise 30", text = "NONE: it is missing")
    static void provesNone() {
        WhoseDelay x = toProve(8, 0, 0);
        allAre("proves by a missing SHEET", NONE, x.proves(0, 20, 0), x.proves(1, 20, 0), x.proves(3, 20, 0));
        x.sheet(2, 0, 2);
        due("proves(2, 20, 0), missing by now", x.proves(2, 20, 0), NONE);
    }
}
