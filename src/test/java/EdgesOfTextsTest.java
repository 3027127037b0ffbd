/** Term 4: the texts of the contract, their names, and what they say. */
public final class EdgesOfTextsTest extends Edges {
    public static void main(String[] args) throws Exception {
        run(EdgesOfTextsTest.class);
    }

    @Says(in = "Term 4", text = "THE CONTRACT: TEXTS are read from THE TAPE (bytes, at most 60): T: A { | A }")
    static void tapeHas60BytesAtMost() {
        WhoseDelay x = events(1);
        due("59 bytes", feedText(x, "0|".repeat(29) + "7"), 59);
        due("told(7)", x.told(7), 59);
        due("feed of two more", x.feed(0x3737, 2), FULL);
        due("feed of one more", x.feed('7', 1), 60);
        due("feed of one more", x.feed('7', 1), FULL);
        due("clause of 60 bytes", x.clause(1, 0), 0);
        due("says(1, 0) by 0|0|..|77", x.says(1, 0), 1);
        due("a TEXT of one byte", value("7"), 7);
        due("an empty one", fault(""), 0);
        due("0|0", value("0|0"), 0);
        due("0|9", value("0|9"), 1);
        due("9|0|0", value("9|0|0"), 1);
        due("| at its end", fault("1|"), 2);
        due("| at its beginning", fault("|1"), 0);
        due("||", fault("1||1"), 2);
    }

    @Says(in = "Term 4", text = "A: B { & B }")
    static void textsOfAnd() {
        due("2&4", value("2&4"), 1);
        due("2&0", value("2&0"), 0);
        due("0&2", value("0&2"), 0);
        due("1&1&0", value("1&1&0"), 0);
        due("1&1&1", value("1&1&1"), 1);
        due("1|0&0, & being nearer", value("1|0&0"), 1);
        due("0&0|1, & being nearer", value("0&0|1"), 1);
        due("& at its end", fault("1&"), 2);
        due("&&", fault("1&&1"), 2);
        due("as many as the TAPE has", value("1&".repeat(29) + "1"), 1);
    }

    @Says(in = "Term 4", text = "B: S, or S < S, S = S, S > S")
    static void comparedOnce() {
        due("1<2", value("1<2"), 1);
        due("2<2", value("2<2"), 0);
        due("3<2", value("3<2"), 0);
        due("1=2", value("1=2"), 0);
        due("2=2", value("2=2"), 1);
        due("1>2", value("1>2"), 0);
        due("2>2", value("2>2"), 0);
        due("3>2", value("3>2"), 1);
        String[] signs = {"<", "=", ">"};
        for (String first : signs) {
            for (String second : signs) {
                due("a second " + second + " behind " + first, fault("1" + first + "2" + second + "3"), 3);
            }
            due(first + " at its end", fault("1" + first), 2);
            due(first + " behind &", fault("1" + first + "2&3" + first + "4"), -1);
            due(first + " in brackets", fault("(1" + first + "2)" + first + "3"), -1);
        }
        due("<=", fault("1<=2"), 2);
        due("1+1=2+0", value("1+1=2+0"), 1);
        due("1=1&2=2", value("1=1&2=2"), 1);
    }

    @Says(in = "Term 4", text = "S: P { + P, - P }")
    static void sums() {
        due("1+2+3", value("1+2+3"), 6);
        due("9-2-3, from the left on", value("9-2-3"), 4);
        due("9-2+3, from the left on", value("9-2+3"), 10);
        due("+ at its end", fault("1+"), 2);
        due("- at its beginning", fault("-1"), 0);
        due("--", fault("1--1"), 2);
        due("as many as the TAPE has", value("1+".repeat(29) + "1"), 30);
        due("as many as the TAPE has", value("59" + "-1".repeat(29)), 30);
    }

    @Says(in = "Term 4", text = "P: Q { * Q, / Q }")
    static void products() {
        due("2*3*4", value("2*3*4"), 24);
        due("24/2/3, from the left on", value("24/2/3"), 4);
        due("7/2*2, from the left on", value("7/2*2"), 6);
        due("2*7/2, from the left on", value("2*7/2"), 7);
        due("2+3*4", value("2+3*4"), 14);
        due("20-8/4", value("20-8/4"), 18);
        due("* at its end", fault("1*"), 2);
        due("/ at its beginning", fault("/1"), 0);
        due("**", fault("1**1"), 2);
        due("as many as the TAPE has", value("1*".repeat(29) + "9"), 9);
    }

    @Says(in = "Term 4", text = "Q: a NUMBER of 1 to 4 digits")
    static void numbersOf1To4Digits() {
        due("0", value("0"), 0);
        due("9", value("9"), 9);
        due("9999", value("9999"), 9999);
        due("0000", value("0000"), 0);
        due("0012", value("0012"), 12);
        due("12345", fault("12345"), 4);
        due("00000", fault("00000"), 4);
        due("1+12345", fault("1+12345"), 6);
        due("(12345", fault("(12345"), 5);
        due("a NUMBER behind a NUMBER", fault("1 2"), 1);
    }

    @Says(in = "Term 4", text = "a NAME, ! Q, ( T )")
    static void namesNotsAndBrackets() {
        String[] names = {"c", "d", "k", "n", "t", "f"};
        for (String name : names) {
            due(name, fault(name), -1);
            due("two NAMES", fault(name + name), 1);
            due("a NUMBER behind a NAME", fault(name + "1"), 1);
            due("a NAME behind a NUMBER", fault("1" + name), 1);
            due("a great one", fault(name.toUpperCase()), 0);
        }
        due("!0", value("!0"), 1);
        due("!7", value("!7"), 0);
        due("!!7", value("!!7"), 1);
        due("!0+1, of Q alone", value("!0+1"), 2);
        due("!0*5, of Q alone", value("!0*5"), 5);
        due("!1=0, of Q alone", value("!1=0"), 1);
        due("!(0+1)", value("!(0+1)"), 0);
        due("(2+3)*4", value("(2+3)*4"), 20);
        due("(1|0)", value("(1|0)"), 1);
        due("(5)", value("(5)"), 5);
        due("()", fault("()"), 1);
        due("(", fault("("), 1);
        due("(1", fault("(1"), 2);
        due("1)", fault("1)"), 1);
        due("(1))", fault("(1))"), 3);
        due("!", fault("!"), 1);
        due("1!", fault("1!"), 1);
        due("1(", fault("1("), 1);
        due("(1)(1)", fault("(1)(1)"), 3);
        due("!)", fault("!)"), 1);
    }

    @Says(in = "Term 4", text = "No blanks")
    static void noBlanks() {
        due("a blank alone", fault(" "), 0);
        due("a blank ahead", fault(" 1"), 0);
        due("a blank behind", fault("1 "), 1);
        due("a blank inside", fault("1 +1"), 1);
        due("a blank inside", fault("1+ 1"), 2);
        due("a tab", fault("\t1"), 0);
        due("a new line", fault("1\n"), 1);
        due("a 0 behind", fault("1\0"), 1);
    }

    @Says(in = "Term 4", text = "At most 5 of ! and ( are open at once")
    static void fiveAreOpenAtMost() {
        due("five !", value("!!!!!0"), 1);
        due("six !", fault("!!!!!!0"), 5);
        due("five (", value("(((((7)))))"), 7);
        due("six (", fault("((((((7))))))"), 5);
        due("five of both", value("!(!(!0))"), 1);
        due("six of both", fault("!(!(!(0)))"), 5);
        due("six of both", fault("((!(!!0)))"), 5);
        due("the same again, when they are shut", value("!!!!!0+!!!!!0"), 2);
        due("the same again, when they are shut", value("(((((7)))))+(((((8)))))"), 15);
        due("! is shut behind its Q, ( is not", value("(!(!(0)+!(0)))"), 0);
        due("a sixth behind ones that are shut", fault("(!0+(!0+(!0+(!0+!!0"), 17);
        due("many one behind another", value("!0+".repeat(19) + "!0"), 20);
        due("a sixth that ends the text", fault("!!!!!!"), 5);
        due("five that end it too early", fault("!!!!!"), 5);
    }

    @Says(in = "Term 4", text = "Ints that wrap")
    static void intsWrap() {
        due("2^31 is below 0", value("8192*8192*32<0"), 1);
        due("2^31 - 1 is above 0", value("8192*8192*32-1>0"), 1);
        due("2^31 + 2^31 is 0", value("8192*8192*32+8192*8192*32=0"), 1);
        due("2^32 is 0", value("8192*8192*64=0"), 1);
        due("0 - 2^31 is 2^31", value("0-8192*8192*32=8192*8192*32"), 1);
        due("2^31 / -1 is 2^31", value("8192*8192*32/(0-1)=8192*8192*32"), 1);
        due("2^31 / -1 is below 0", value("8192*8192*32/(0-1)<0"), 1);
        // 9999 three times is 232 * 2^32 + 3267617327, which is -1027349969 as an int.
        due("9999*9999*9999", value("9999*9999*9999=0-9999*9999*10-9999*2755-2714"), 1);
    }

    @Says(in = "Term 4", text = "/ by 0 is 0")
    static void by0Is0() {
        due("7/0", value("7/0"), 0);
        due("0/0", value("0/0"), 0);
        due("7/0+5", value("7/0+5"), 5);
        due("7/(2-2)*3+1", value("7/(2-2)*3+1"), 1);
        due("7/!1", value("7/!1"), 0);
        due("8192*8192*32/0", value("8192*8192*32/0"), 0);
        due("7/0/0", value("7/0/0"), 0);
    }

    @Says(in = "Term 4", text = "| & < = > ! are 1 or 0, what is not 0 being true; all is worked out")
    static void truthIs1Or0() {
        due("7|0", value("7|0"), 1);
        due("0|(0-7)", value("0|(0-7)"), 1);
        due("7&9", value("7&9"), 1);
        due("2&1", value("2&1"), 1);
        due("!(0-1)", value("!(0-1)"), 0);
        due("(0-1)&1", value("(0-1)&1"), 1);
        due("(1<2)+(1=1)+(2>1)", value("(1<2)+(1=1)+(2>1)"), 3);
        due("7, which is none of these", value("7"), 7);
        due("1|1/0", value("1|1/0"), 1);
        due("0&1/0", value("0&1/0"), 0);
        due("a FAULT behind 1|", fault("1|x"), 2);
        due("a FAULT behind 0&", fault("0&x"), 2);
    }

    /** Behind each beginning: all bytes with which no TEXT goes on, and none but them. */
    @Says(in = "Term 4", text = "FAULT: the place of the first byte with which no TEXT goes on")
    static void faultIsTheFirstByteThatCantBe() {
        String first = "0123456789cdkntf!(";
        String next = "|&<=>+-*/";
        String nextOfSecond = "|&+-*/";
        String digits = "0123456789";
        goesOn("", first);
        goesOn("c", next);
        goesOn("1", next + digits);
        goesOn("1234", next);
        goesOn("(", first);
        goesOn("(1234", next + ")");
        goesOn("(12", next + digits + ")");
        goesOn("(c)", next);
        goesOn("!", first);
        goesOn("!c", next);
        goesOn("!!!!!", "0123456789cdkntf");
        goesOn("(((((", "0123456789cdkntf");
        goesOn("c<", first);
        goesOn("c<d", nextOfSecond);
        goesOn("(c=d", nextOfSecond + ")");
        goesOn("(c>d)", next);
        goesOn("c<d&", first);
        goesOn("c<d&c", next);
        goesOn("c<d|c", next);
        goesOn("c<d+c", nextOfSecond);
        goesOn("c<d*c", nextOfSecond);
        goesOn("c*", first);
        goesOn("c-", first);
    }

    private static int risk(String text) {
        WhoseDelay x = events(1);
        due("clause of " + text, clauseOf(x, 0, 0, text), 0);
        return x.says(0, 0);
    }

    private static void goesOn(String start, String bytes) {
        for (int b = 0; b < 256; b++) {
            int fault = fault(start + (char) b);
            boolean goes = bytes.indexOf((char) b) >= 0;
            boolean right = goes ? fault == -1 || fault == start.length() + 1 : fault == start.length();
            due("whether FAULT " + fault + " of byte " + b + " behind " + start + " is right", right ? 1 : 0, 1);
        }
    }

    @Says(in = "Term 4", text = "how many there are, if it ends too early")
    static void faultOfWhatEndsTooEarly() {
        String[] early = {"", "!", "(", "(1", "1+", "1<", "1&", "1|", "1*", "(1)+", "(c<d", "((((("};
        for (String text : early) {
            due(text, fault(text), text.length());
        }
        due("60 bytes", fault("1+".repeat(30)), 60);
        due("60 bytes with a ( open", fault("(" + "1+".repeat(29) + "1"), 60);
    }

    private static final String OTHER_AT_ONCE = "t 1 if it is TWO AT ONCE, else 0 (another EVENT that is KNOWN TODAY, of another CAUSE, is such that a day is in both: DAY, and as many days less 1 on)";

    @Says(in = "Term 4", text = "c CAUSE, d days, k KIND of the WORK")
    static void namesOfCauseDaysAndKind() {
        WhoseDelay x = new WhoseDelay();
        for (int kind = 0; kind < 6; kind++) {
            x.work(kind, 5);
        }
        x.event(0, 0, 1);
        x.event(53, 0, 30);
        x.event(31, 0, 7);
        int[][] values = {{0, 3, 1}, {1, 30, 7}, {0, 5, 3}};
        String[] names = {"c", "d", "k"};
        for (int i = 0; i < 3; i++) {
            clauseOf(x, 1, 0, names[i]);
            for (int e = 0; e < 3; e++) {
                due("says(1, " + e + ") by " + names[i], x.says(1, e), values[i][e]);
            }
        }
    }

    @Says(in = "Term 4", text = "n how many days behind its DAY its NOTICE was (999 without one)")
    static void nameOfNotice() {
        WhoseDelay x = with(4, 5);
        x.today(900);
        for (int e = 0; e < 3; e++) {
            x.event(0, 0, 1);
        }
        x.event(0, 900, 1);
        clauseOf(x, 1, 0, "n");
        x.notice(0, 0);
        x.notice(1, 900);
        x.notice(3, 900);
        due("a NOTICE at its DAY", x.says(1, 0), 0);
        due("a NOTICE 900 days behind it", x.says(1, 1), 900);
        due("without one", x.says(1, 2), 999);
        due("a NOTICE at its DAY, the last", x.says(1, 3), 0);
    }

    /** t of EVENT 0 with DAY 10 and 5 days (10 .. 14), and another one. */
    private static int twoAtOnce(int cause, int day, int days) {
        WhoseDelay x = with(4, 5, 5);
        x.today(50);
        x.event(2, 10, 5);
        x.event(10 + cause, day, days);
        clauseOf(x, 1, 0, "t");
        due("says(1, 1), as with the one so with the other", x.says(1, 1), x.says(1, 0));
        due("claim(5)", x.claim(5), x.says(1, 0) == 1 ? 3 : 0);
        return x.says(1, 0);
    }

    @Says(in = "Term 4", text = OTHER_AT_ONCE)
    static void nameOfTwoAtOnce() {
        due("the last day of the other is the one ahead", twoAtOnce(0, 7, 3), 0);
        due("the last day of the other is the first", twoAtOnce(0, 7, 4), 1);
        due("the other has the last day", twoAtOnce(0, 14, 1), 1);
        due("the other begins behind the last", twoAtOnce(0, 15, 30), 0);
        due("the other is inside", twoAtOnce(3, 12, 1), 1);
        due("the other is around", twoAtOnce(3, 0, 30), 1);
        due("the other is the same", twoAtOnce(1, 10, 5), 1);
        due("the other is of the same CAUSE", twoAtOnce(2, 10, 5), 0);
    }

    @Says(in = "Term 4", text = "another EVENT that is KNOWN TODAY, of another CAUSE")
    static void twoAtOnceWithWhatIsKnown() {
        WhoseDelay x = with(4, 5);
        x.event(0, 0, 1);
        clauseOf(x, 1, 0, "t");
        due("says(1, 0) of the only one", x.says(1, 0), 0);
        x.event(1, 0, 1);
        due("says(1, 0) with another", x.says(1, 0), 1);
        x.today(1);
        x.back(1);
        due("says(1, 0) with another that is TAKEN BACK", x.says(1, 0), 0);
        due("claim(5)", x.claim(5), 0);
        x.event(3, 0, 1);
        due("says(1, 0) with a third", x.says(1, 0), 1);
        due("claim(5)", x.claim(5), 5);
    }

    @Says(in = "Term 4", text = "f FLOAT of its WORK for no EVENTS")
    static void nameOfFloat() {
        WhoseDelay x = inRow(with(4, 40, 40, 40));
        x.work(4, 1);
        x.work(4, 40);
        x.event(0, 0, 1);
        x.event(30, 0, 30);
        x.event(40, 0, 30);
        clauseOf(x, 1, 0, "f");
        due("says(1, 0) of one that rules", x.says(1, 0), 0);
        due("says(1, 1) of 119 days", x.says(1, 1), 99);
        due("says(1, 2) of 80 days", x.says(1, 2), 80);
        x.edit(4, 22);
        due("says(1, 2) of 98 days", x.says(1, 2), 98);
    }

    @Says(in = "Term 4", text = "CLAUSES, at most 10, are TEXTS of a USE: 0 RISK, 1 PRICE")
    static void atMost10Clauses() {
        WhoseDelay x = events(1);
        for (int c = 0; c < 10; c++) {
            due("clause", clauseOf(x, c % 2, 0, Integer.toString(c % 3)), c);
        }
        feedText(x, "1");
        due("clause(0, 0) when there are 10", x.clause(0, 0), FULL);
        due("clause(1, 0) when there are 10", x.clause(1, 0), FULL);
        due("force(0, 0)", x.force(0, 0), 8);
        due("force(1, 0)", x.force(1, 0), 9);
        due("says(0, 0) by 2", x.says(0, 0), 2);
        due("says(1, 0) by 0", x.says(1, 0), 0);
    }

    @Says(in = "Term 4", text = "for EVENTS with a DAY from one on: in force for one is that told last of its USE for its DAY or one ahead")
    static void clauseInForce() {
        WhoseDelay x = with(4, 5);
        x.today(900);
        x.event(0, 9, 1);
        x.event(0, 10, 1);
        x.event(0, 11, 1);
        x.event(0, 900, 1);
        clauseOf(x, 1, 10, "1");
        clauseOf(x, 1, 900, "2");
        int[] second = {NONE, 0, 0, 1};
        for (int e = 0; e < 4; e++) {
            due("force(1, " + e + ")", x.force(1, e), second[e]);
            due("force(0, " + e + ") of the other USE", x.force(0, e), NONE);
        }
        clauseOf(x, 1, 11, "3");
        int[] third = {NONE, 0, 2, 2};
        clauseOf(x, 0, 0, "1");
        for (int e = 0; e < 4; e++) {
            due("force(1, " + e + "), that told last, not that of the last day", x.force(1, e), third[e]);
            due("force(0, " + e + ") from day 0 on", x.force(0, e), 3);
        }
        due("says(1, 0) by none", x.says(1, 0), 100);
        due("says(1, 1) by the first", x.says(1, 1), 1);
        due("says(1, 3) by the third", x.says(1, 3), 3);
    }

    @Says(in = "Term 4", text = "RISK of an EVENT: below 1: nothing; 1: TIME; above: TIME and PAY")
    static void riskBelowAndAbove() {
        due("0", risk("0"), 0);
        due("0-1", risk("0-1"), 0);
        due("2^31, which wraps", risk("8192*8192*32"), 0);
        due("1", risk("1"), 1);
        due("2", risk("2"), 2);
        due("3", risk("3"), 2);
        due("9999", risk("9999"), 2);
        due("2^31 - 1", risk("8192*8192*32-1"), 2);
    }

    @Says(in = "Term 4", text = "without a CLAUSE: of the OWNER TIME and PAY, of the SKY and OTHERS TIME")
    static void riskWithoutAClause() {
        WhoseDelay x = with(4, 5);
        int[] risks = {2, 0, 1, 1};
        for (int e = 0; e < 4; e++) {
            x.event(e, 0, 1);
            due("says(0, " + e + ")", x.says(0, e), risks[e]);
        }
        due("claim(4)", x.claim(4), 13);
        due("claim(2)", x.claim(2), 100);
    }

    @Says(in = "Term 4", text = "PRICE: what a day of it is paid (0 .. 9999; below, above: these); without: 100")
    static void priceIs0To9999() {
        due("0", value("0"), 0);
        due("0-1", value("0-1"), 0);
        due("1", value("1"), 1);
        due("9999", value("9999"), 9999);
        due("9999+1", value("9999+1"), 9999);
        due("2^31 - 1", value("8192*8192*32-1"), 9999);
        due("2^31, which wraps", value("8192*8192*32"), 0);
        due("without", events(1).says(1, 0), 100);
        WhoseDelay x = events(1);
        clauseOf(x, 1, 0, "9999+9999");
        due("claim(2) of a day at most", x.claim(2), 9999);
        clauseOf(x, 1, 0, "0-9999");
        due("claim(2) of a day at least", x.claim(2), 0);
    }

    @Says(in = "Term 4", text = "GRANTED (by EVENTS KNOWN TODAY): by how much the END of those with TIME is more than that of none; DUE is the END of none and that")
    static void grantedAndDue() {
        WhoseDelay x = with(4, 10, 12);
        due("claim(0) without EVENTS", x.claim(0), 0);
        due("claim(1) without EVENTS", x.claim(1), 12);
        x.event(0, 0, 2);
        due("claim(0) of what fits into a FLOAT", x.claim(0), 0);
        x.event(2, 0, 3);
        due("claim(0)", x.claim(0), 3);
        due("claim(1)", x.claim(1), 15);
        x.event(1, 0, 30);
        due("claim(0) with one of the BUILDER", x.claim(0), 3);
        x.today(1);
        x.back(1);
        due("claim(0) with one TAKEN BACK", x.claim(0), 0);
        due("claim(1) with one TAKEN BACK", x.claim(1), 12);
        due("claim(0) of no WORKS", new WhoseDelay().claim(0), 0);
        due("claim(1) of no WORKS", new WhoseDelay().claim(1), 0);
    }

    @Says(in = "Term 4", text = "PAID: of EVENTS with PAY, IN ORDER: by how much the END of all such up to it is more than that of all such ahead of it, times its PRICE, all together")
    static void paidInOrder() {
        WhoseDelay x = with(4, 10, 10);
        due("claim(2) without EVENTS", x.claim(2), 0);
        x.today(9);
        x.event(0, 7, 4);
        x.event(10, 7, 6);
        clauseOf(x, 1, 0, "d");
        // On one DAY: 4 days of 4, then 2 days of 6.
        due("claim(2) by number", x.claim(2), 16 + 12);
        x.event(10, 6, 1);
        // IN ORDER 2, 0, 1: ends 11, 14, 17.
        due("claim(2) by DAY", x.claim(2), 1 + 12 + 18);
        x.event(2, 0, 30);
        due("claim(2) with TIME alone for another", x.claim(2), 1 + 12 + 18);
        x.today(10);
        x.back(1);
        due("claim(2) with one TAKEN BACK", x.claim(2), 1 + 12);
        // The most: 600 days at 9999 each, one a week.
        WhoseDelay y = with(0, 40);
        y.week(1);
        for (int e = 0; e < 20; e++) {
            y.event(0, 0, 30);
        }
        clauseOf(y, 1, 0, "9999");
        due("claim(2) of the most", y.claim(2), 600 * 7 * 9999);
    }

    @Says(in = "Term 4", text = "LATE: by how much the END of ALL is above DUE")
    static void late() {
        WhoseDelay x = with(4, 10);
        due("claim(3) without EVENTS", x.claim(3), 0);
        x.event(0, 0, 5);
        due("claim(3) when all has TIME", x.claim(3), 0);
        x.event(1, 0, 7);
        due("claim(3)", x.claim(3), 7);
        x.today(1);
        x.back(1);
        due("claim(3) with that TAKEN BACK", x.claim(3), 0);
    }
}
