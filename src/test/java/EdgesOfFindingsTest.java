import java.util.function.ToIntFunction;

/** What is said of findings: their numbers, their order, and that they change nothing. */
public final class EdgesOfFindingsTest extends Edges {
    public static void main(String[] args) throws Exception {
        run(EdgesOfFindingsTest.class);
    }

    @Says(in = "Findings", text = "FINDINGS are answers below -1000000: LOW is -1000000; LOW - 1 BEYOND, LOW - 2 NONE, LOW - 3 STATE, LOW - 4 FULL, LOW - 5 KIND")
    static void findingsAreTheseNumbers() {
        WhoseDelay x = with(5, 9);
        due("BEYOND", x.end(-1), -1000001);
        due("NONE", x.trace(0), -1000002);
        due("STATE", x.sheet(0, 8, -1), -1000003);
        feedText(x, "1".repeat(60));
        due("FULL", x.feed(0, 1), -1000004);
        due("KIND", x.as(0, 1), -1000005);
    }

    private static final String ORDER = "Each act tells its findings in the order in which they are asked";

    @Says(in = "Findings", text = ORDER)
    static void orderOfWork() {
        WhoseDelay x = many(16, 0, 1);
        allAre("work of no such kind or days when there are 16", BEYOND, x.work(6, 1), x.work(-1, 1), x.work(0, 0), x.work(0, 41));
        due("work(0, 1) when there are 16", x.work(0, 1), FULL);
    }

    @Says(in = "Findings", text = ORDER)
    static void orderOfAs() {
        WhoseDelay x = with(1, 5);
        allAre("as of no such work or kind", BEYOND, x.as(1, 2), x.as(0, 6), x.as(0, -1));
        due("as(0, 2)", x.as(0, 2), KIND);
    }

    @Says(in = "Findings", text = ORDER)
    static void orderOfEdit() {
        WhoseDelay x = with(0, 5);
        x.hurry(0, 2, 1);
        allAre("edit of no such days, though it is hurried by more", BEYOND, x.edit(0, 0), x.edit(0, -1), x.edit(0, 41));
        due("edit(0, 2)", x.edit(0, 2), STATE);
    }

    @Says(in = "Findings", text = ORDER)
    static void orderOfLink() {
        WhoseDelay x = full();
        allAre("link of no such LAG or WORKS", BEYOND, x.link(0, 1, 21), x.link(1, 0, -1), x.link(0, 5, 21), x.link(0, 16, 0), x.link(5, 5, 0));
        due("link that is there, ahead of FULL", x.link(0, 1, 0), STATE);
        due("link that makes a ring, ahead of FULL", x.link(15, 0, 0), STATE);
        due("link(0, 4, 0) when there are 30", x.link(0, 4, 0), FULL);
    }

    @Says(in = "Findings", text = ORDER)
    static void orderOfUnlink() {
        WhoseDelay x = with(4, 5, 5);
        allAre("unlink of no such WORKS, which have no LINK", BEYOND, x.unlink(2, 2), x.unlink(0, 2), x.unlink(-1, 0));
        allAre("unlink without a LINK", NONE, x.unlink(0, 1), x.unlink(1, 1));
    }

    @Says(in = "Findings", text = ORDER)
    static void orderOfEvent() {
        WhoseDelay x = events(20);
        allAre("event that can't be when there are 20", BEYOND, x.event(10, 0, 1), x.event(4, 0, 1), x.event(0, 901, 1), x.event(0, 0, 31));
        due("event(0, 0, 1) when there are 20", x.event(0, 0, 1), FULL);
    }

    @Says(in = "Findings", text = ORDER)
    static void orderOfNotice() {
        WhoseDelay x = with(4, 5);
        x.today(9);
        x.event(0, 5, 1);
        x.notice(0, 6);
        allAre("notice on no such day, though it has one", BEYOND, x.notice(0, 4), x.notice(0, 10));
        due("notice(0, 7)", x.notice(0, 7), STATE);
    }

    @Says(in = "Findings", text = ORDER)
    static void orderOfChain() {
        WhoseDelay x = new WhoseDelay();
        allAre("chain of no such set or place, and there is none", BEYOND, x.chain(1, 0), x.chain(-1, 5), x.chain(0, -1));
        due("chain(0, 0) without WORKS", x.chain(0, 0), NONE);
    }

    @Says(in = "Findings", text = ORDER)
    static void orderOfOneAndWithout() {
        WhoseDelay x = events(1);
        allAre("one, without of no such EVENT or day", BEYOND, x.one(1, 0), x.one(0, 901), x.one(0, -1), x.without(1, 0), x.without(0, 901), x.without(0, -1));
        allAre("one, without ahead of the day it was told", NONE, x.one(0, 899), x.without(0, 899));
    }

    @Says(in = "Findings", text = ORDER)
    static void orderOfFeed() {
        WhoseDelay x = new WhoseDelay();
        feedText(x, "1".repeat(60));
        allAre("feed of no such n into a full TAPE", BEYOND, x.feed(1, 0), x.feed(1, 9), x.feed(1, -1));
        due("feed(1, 1) into a full TAPE", x.feed(1, 1), FULL);
    }

    @Says(in = "Findings", text = ORDER)
    static void orderOfClause() {
        WhoseDelay x = full();
        allAre("clause of no such USE or day when there are 10", BEYOND, x.clause(2, 0), x.clause(-1, 0), x.clause(0, 901), x.clause(0, -1));
        due("clause(0, 0) of a text with a FAULT when there are 10", x.clause(0, 0), FULL);
    }

    @Says(in = "Findings", text = ORDER)
    static void orderOfForce() {
        WhoseDelay x = events(1);
        allAre("force of no such USE or EVENT, and none is in force", BEYOND, x.force(2, 0), x.force(-1, 0), x.force(0, 1));
        due("force(0, 0)", x.force(0, 0), NONE);
    }

    @Says(in = "Findings", text = ORDER)
    static void orderOfHurry() {
        WhoseDelay x = with(0, 2, 9, 9, 9, 9, 9, 9);
        x.work(5, 1);
        allAre("hurry of no such days or price, ahead of KIND", BEYOND, x.hurry(7, 0, 1), x.hurry(7, 3, 1), x.hurry(7, 1, 0), x.hurry(7, 1, 1000));
        allAre("hurry of a CURING that is not LONG above it, ahead of STATE", KIND, x.hurry(7, 1, 1), x.hurry(7, 2, 1));
        due("hurry of no such price, ahead of STATE", x.hurry(0, 2, 0), BEYOND);
        due("hurry(0, 2, 1)", x.hurry(0, 2, 1), STATE);
        for (int w = 1; w <= 5; w++) {
            x.hurry(w, 1, 1);
        }
        due("hurry of no such price, ahead of FULL", x.hurry(6, 1, 1000), BEYOND);
        due("hurry of a CURING, ahead of FULL", x.hurry(7, 1, 1), KIND);
        allAre("hurry that may already or is too short, ahead of FULL", STATE, x.hurry(1, 1, 1), x.hurry(0, 2, 1));
        due("hurry(6, 1, 1) when five may", x.hurry(6, 1, 1), FULL);
    }

    @Says(in = "Findings", text = ORDER)
    static void orderOfLeast() {
        WhoseDelay x = with(4, 5);
        allAre("least of no such day or what, and it can't be", BEYOND, x.least(-1, -1), x.least(10000, -1), x.least(0, 0), x.least(0, -2));
        due("least(0, -1)", x.least(0, -1), NONE);
    }

    @Says(in = "Findings", text = ORDER)
    static void orderOfProves() {
        WhoseDelay x = with(4, 5);
        allAre("proves of no such day or sum by a missing SHEET", BEYOND, x.proves(0, -1, 0), x.proves(0, 10000, 0), x.proves(0, 0, -1), x.proves(4, 0, 0));
        due("proves(0, 0, 0)", x.proves(0, 0, 0), NONE);
    }

    @Says(in = "Findings", text = ORDER)
    static void orderOfPut() {
        WhoseDelay x = new WhoseDelay();
        due("put(4, -1, 0)", x.put(4, -1, 0), BEYOND);
        due("put(0, -1, 0) of a missing one", x.put(0, -1, 0), NONE);
        x.sheet(0, 8, 1);
        due("put(0, -1, 0)", x.put(0, -1, 0), BEYOND);
    }

    @Says(in = "Findings", text = ORDER)
    static void orderOfMove() {
        WhoseDelay x = new WhoseDelay();
        x.sheet(0, 8, 1);
        x.sheet(1, 16, 1);
        allAre("move with no such SHEET, the other missing", BEYOND, x.move(4, 0, 2, 0, 1), x.move(2, 0, 4, 0, 1), x.move(-1, 0, 2, 0, 1), x.move(2, 0, -1, 0, 1));
        allAre("move with a missing one, of numbers that don't stand there", NONE, x.move(0, 9, 2, 9, 9), x.move(2, -1, 0, -1, -1), x.move(2, 0, 3, 0, 99));
        allAre("move between unlike bits, of numbers that don't stand there", KIND, x.move(0, 9, 1, 9, 9), x.move(1, -1, 0, -1, -1));
        due("move(0, 0, 0, 0, 2)", x.move(0, 0, 0, 0, 2), BEYOND);
    }

    @Says(in = "Findings", text = "All quotients are cut")
    static void quotientsAreCut() {
        due("7/2", value("7/2"), 3);
        due("(0-7)/2 is -3", value("(0-7)/2+10"), 7);
        due("7/(0-2) is -3", value("7/(0-2)+10"), 7);
        due("(0-7)/(0-2)", value("(0-7)/(0-2)"), 3);
        due("1/2", value("1/2"), 0);
        due("(0-1)/2 is 0", value("(0-1)/2+10"), 10);
        // 5 days lost by 5 and 5 of 10: 2 each, and one is left over.
        due("parts of 5 by 5, 5", parts(5, 5, 0, 0), 3200);
    }

    @Says(in = "Findings", text = "Sets are told by bits")
    static void setsAreBits() {
        WhoseDelay x = events(20);
        due("known(900) of 20", x.known(900), 0xFFFFF);
        due("claim(4) of 20", x.claim(4), 0xFFFFF);
        due("end of bit 0", x.end(1), 6);
        due("end of bit 19", x.end(1 << 19), 6);
        due("end of all bits", x.end(0xFFFFF), 25);
        due("end of bit 20", x.end(1 << 20), BEYOND);
        due("week of bit 6", x.week(64), 31);
    }

    private static final String NOTHING = "one that answers a finding changes nothing but what found() tells";

    /** Of two that were built alike one is asked what it refuses; then they are read out. */
    private static void unchanged(WhoseDelay x, WhoseDelay twin, int[][] links, String call, int want, ToIntFunction<WhoseDelay> act) {
        due(call, act.applyAsInt(x), want);
        for (int k = 1; k <= 5; k++) {
            due("found(" + k + ") behind " + call, x.found(k), twin.found(k) + (LOW - want == k ? 1 : 0));
        }
        due("all that is read behind " + call, readOut(x, links), readOut(twin, links));
    }

    private static void refused(String call, int want, ToIntFunction<WhoseDelay> act) {
        unchanged(rich(), rich(), RICH_LINKS, call, want, act);
    }

    private static void refusedByFull(String call, ToIntFunction<WhoseDelay> act) {
        unchanged(full(), full(), fullLinks(), call, FULL, act);
    }

    @Says(in = "Findings", text = NOTHING)
    static void refusedWorksChangeNothing() {
        refused("work(6, 1)", BEYOND, x -> x.work(6, 1));
        refused("work(0, 0)", BEYOND, x -> x.work(0, 0));
        refused("as(7, 0)", BEYOND, x -> x.as(7, 0));
        refused("as(0, 1)", KIND, x -> x.as(0, 1));
        refused("edit(7, 5)", BEYOND, x -> x.edit(7, 5));
        refused("edit(0, 41)", BEYOND, x -> x.edit(0, 41));
        refused("edit(0, 2)", STATE, x -> x.edit(0, 2));
        refused("link(0, 0, 0)", BEYOND, x -> x.link(0, 0, 0));
        refused("link(0, 7, 0)", BEYOND, x -> x.link(0, 7, 0));
        refused("link(0, 2, 21)", BEYOND, x -> x.link(0, 2, 21));
        refused("link(0, 1, 1)", STATE, x -> x.link(0, 1, 1));
        refused("link(3, 0, 0)", STATE, x -> x.link(3, 0, 0));
        refused("unlink(0, 7)", BEYOND, x -> x.unlink(0, 7));
        refused("unlink(1, 0)", NONE, x -> x.unlink(1, 0));
        refused("unlink(1, 1)", NONE, x -> x.unlink(1, 1));
        refused("week(0)", BEYOND, x -> x.week(0));
        refused("week(128)", BEYOND, x -> x.week(128));
        refused("rain(897, 4, false)", BEYOND, x -> x.rain(897, 4, false));
        refused("rain(-1, 9, true)", BEYOND, x -> x.rain(-1, 9, true));
        refused("rain(0, 61, true)", BEYOND, x -> x.rain(0, 61, true));
        refused("today(14)", BEYOND, x -> x.today(14));
        refused("today(901)", BEYOND, x -> x.today(901));
    }

    @Says(in = "Findings", text = NOTHING)
    static void refusedEventsChangeNothing() {
        refused("event(70, 0, 1)", BEYOND, x -> x.event(70, 0, 1));
        refused("event(4, 0, 1)", BEYOND, x -> x.event(4, 0, 1));
        refused("event(0, 16, 1)", BEYOND, x -> x.event(0, 16, 1));
        refused("event(0, 0, 31)", BEYOND, x -> x.event(0, 0, 31));
        refused("notice(5, 15)", BEYOND, x -> x.notice(5, 15));
        refused("notice(3, 10)", BEYOND, x -> x.notice(3, 10));
        refused("notice(3, 16)", BEYOND, x -> x.notice(3, 16));
        refused("notice(0, 15)", STATE, x -> x.notice(0, 15));
        refused("back(5)", BEYOND, x -> x.back(5));
        refused("back(1)", STATE, x -> x.back(1));
        refused("back(4)", STATE, x -> x.back(4));
        refused("of(0, 7)", BEYOND, x -> x.of(0, 7));
        refused("known(901)", BEYOND, x -> x.known(901));
        refused("plan(32, 0, 0)", BEYOND, x -> x.plan(32, 0, 0));
        refused("plan(0, 0, 3)", BEYOND, x -> x.plan(0, 0, 3));
        refused("end(32)", BEYOND, x -> x.end(32));
        refused("chain(0, -1)", BEYOND, x -> x.chain(0, -1));
        refused("chain(0, 16)", NONE, x -> x.chain(0, 16));
        refused("one(0, 901)", BEYOND, x -> x.one(0, 901));
        refused("one(1, 15)", NONE, x -> x.one(1, 15));
        refused("without(5, 15)", BEYOND, x -> x.without(5, 15));
        refused("without(1, 15)", NONE, x -> x.without(1, 15));
        refused("butFor(4, 15)", BEYOND, x -> x.butFor(4, 15));
        refused("window(5, 180, 0, 0)", BEYOND, x -> x.window(5, 180, 0, 0));
    }

    @Says(in = "Findings", text = NOTHING)
    static void refusedContractsChangeNothing() {
        refused("feed(.., 0)", BEYOND, x -> x.feed(-1L, 0));
        refused("feed(.., 9)", BEYOND, x -> x.feed(-1L, 9));
        refused("clause(2, 0)", BEYOND, x -> x.clause(2, 0));
        refused("clause(0, 901)", BEYOND, x -> x.clause(0, 901));
        refused("says(2, 0)", BEYOND, x -> x.says(2, 0));
        refused("says(0, 5)", BEYOND, x -> x.says(0, 5));
        refused("force(2, 0)", BEYOND, x -> x.force(2, 0));
        refused("force(0, 0)", NONE, x -> x.force(0, 0));
        refused("claim(6)", BEYOND, x -> x.claim(6));
        refused("hurry(1, 3, 1)", BEYOND, x -> x.hurry(1, 3, 1));
        refused("hurry(1, 1, 1000)", BEYOND, x -> x.hurry(1, 1, 1000));
        refused("hurry(5, 1, 1)", KIND, x -> x.hurry(5, 1, 1));
        refused("hurry(3, 2, 7)", STATE, x -> x.hurry(3, 2, 7));
        refused("least(10000, -1)", BEYOND, x -> x.least(10000, -1));
        refused("least(0, 2)", BEYOND, x -> x.least(0, 2));
        refused("least(0, -1)", NONE, x -> x.least(0, -1));
        refused("proves(4, 0, 0)", BEYOND, x -> x.proves(4, 0, 0));
        refused("proves(3, 0, 0)", NONE, x -> x.proves(3, 0, 0));
    }

    @Says(in = "Findings", text = NOTHING)
    static void refusedSheetsChangeNothing() {
        refused("voice(7, 0, 0)", BEYOND, x -> x.voice(7, 0, 0));
        refused("voice(0, 4, 0)", BEYOND, x -> x.voice(0, 4, 0));
        refused("trace(10)", NONE, x -> x.trace(10));
        refused("sheet(4, 8, 1)", BEYOND, x -> x.sheet(4, 8, 1));
        refused("sheet(0, 7, 1)", BEYOND, x -> x.sheet(0, 7, 1));
        refused("sheet(0, 8, 25)", BEYOND, x -> x.sheet(0, 8, 25));
        refused("sheet(0, 8, -1)", STATE, x -> x.sheet(0, 8, -1));
        refused("put(4, 0, 0)", BEYOND, x -> x.put(4, 0, 0));
        refused("put(3, 0, 1)", NONE, x -> x.put(3, 0, 1));
        refused("put(0, 2, 1)", BEYOND, x -> x.put(0, 2, 1));
        refused("put(1, 24, 1)", BEYOND, x -> x.put(1, 24, 1));
        refused("move(0, 0, 4, 0, 1)", BEYOND, x -> x.move(0, 0, 4, 0, 1));
        refused("move(0, 0, 3, 0, 1)", NONE, x -> x.move(0, 0, 3, 0, 1));
        refused("move(0, 0, 1, 0, 1)", KIND, x -> x.move(0, 0, 1, 0, 1));
        refused("move(1, 0, 1, 23, 2)", BEYOND, x -> x.move(1, 0, 1, 23, 2));
        refused("told(10)", BEYOND, x -> x.told(10));
        refused("found(6)", BEYOND, x -> x.found(6));
        unchanged(richWithoutImage(), richWithoutImage(), RICH_LINKS, "restore()", NONE, x -> x.restore());
    }

    @Says(in = "Findings", text = NOTHING)
    static void whatIsFullChangesNothing() {
        refusedByFull("work(0, 1)", x -> x.work(0, 1));
        refusedByFull("link(0, 4, 0)", x -> x.link(0, 4, 0));
        refusedByFull("event(0, 0, 1)", x -> x.event(0, 0, 1));
        refusedByFull("feed(.., 1)", x -> x.feed('9', 1));
        refusedByFull("clause(0, 0)", x -> x.clause(0, 0));
        refusedByFull("hurry(9, 1, 1)", x -> x.hurry(9, 1, 1));
        // What does not fit comes to THE TAPE in no part.
        WhoseDelay x = events(1);
        feedText(x, "1+".repeat(27));
        due("feed of 7 to 54", x.feed(0x39393939393939L, 7), FULL);
        due("told(7)", x.told(7), 54);
        due("feed of 6 to 54", feedText(x, "1+1+12"), 60);
        due("clause(1, 0)", x.clause(1, 0), 0);
        due("says(1, 0)", x.says(1, 0), 27 + 14);
    }
}
