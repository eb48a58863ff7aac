/** A test of its own for each sentence of the document's promises 1 to 37, at the edges that the sentence names. */
public final class EdgesOfPromisesTest extends Checks {
    public static void main(String[] args) throws Exception {
        EdgesOfPromisesTest test = new EdgesOfPromisesTest();
        test.runAll();
        test.compareWithDocument(false);
    }

    /** Numbers that no argument with bounds of its own may be. */
    private static final int[] FAR = {MIN, MIN + 1, -1000, 1000000000, MAX - 1, MAX};

    // ---- 1: a new object

    @Says(promise = 1, value = "No rafts")
    void p01ANewObjectHasNoRafts() {
        due(x.count(1), 0);
        due(x.told(0, 0), NONE);
        due(x.lay(0, 0, 50), NONE);
        due(x.raft(1, 2), 0);
    }

    @Says(promise = 1, value = "NOW is 0.")
    void p01NowIs0() {
        due(x.count(0), 0);
        due(x.go(0), 0);
        due(x.booked(0, 0), VOID);
    }

    @Says(promise = 1, value = "No rafts; NOW is 0.")
    void p01ANewObjectHasNothingOfAnOldOne() {
        x.raft(1, 2);
        x.reading(0, SEA10);
        sheetOf("pay 1;");
        x.parts(0, 5);
        x.test(0, 3, true);
        x.place(3);
        x.want(1, 1);
        x.lane(0, 0, 0);
        x.go(3);
        x = new NoddingRafts();
        for (int what = 0; what < 25; what++) {
            due(x.count(what), what == 8 ? 65535 : what < 11 || what >= 20 && what < 23 ? 0 : NONE);
        }
    }

    // ---- 2: reading

    @Says(promise = 2, value = "A READING: how many there are")
    void p02AReadingAnswersHowManyThereAre() {
        due(x.reading(3, SEA10), 1);
        due(x.reading(3, SEA10), 2);
        due(x.reading(2, FLAT), 3);
        due(x.count(2), 3);
    }

    @Says(promise = 2, value = "NONE if it can't be")
    void p02AReadingOfNoSpellCantBe() {
        due(x.reading(-1, SEA10), NONE);
        due(x.reading(480, SEA10), NONE);
        for (int far : FAR) {
            due(x.reading(far, SEA10), NONE);
        }
        due(x.count(2), 0);
    }

    @Says(promise = 2, value = {"NONE if it can't be", "What is HEIGHT * 1000 + PERIOD * 10 + WAY + 1."})
    void p02AReadingOutOfItsBoundsCantBe() {
        int[] cant = {-1, 0, 1, 19, 80 + 3, 89, 210, 219, 990, 10010, 10019, 10083, 10210, 120083, 120203, 120210, 121020,
            121081, 999081};
        for (int what : cant) {
            due(x.reading(0, what), NONE);
        }
        for (int far : FAR) {
            due(x.reading(0, far), NONE);
        }
        due(x.count(2), 0);
        due(x.reading(0, 20), 1);
        due(x.reading(0, 120202), 2);
        due(x.known(0, 0, 0), 120);
        due(x.known(0, 0, 1), 20);
        due(x.known(0, 0, 2), 1);
    }

    @Says(promise = 2, value = "400 were told")
    void p02AReadingMoreThan400CantBe() {
        for (int i = 0; i < 399; i++) {
            x.reading(i, SEA10);
        }
        due(x.reading(0, FLAT), 400);
        due(x.reading(0, SEA10), NONE);
        due(x.known(0, 0, 0), 0);
        due(x.count(2), 400);
    }

    @Says(promise = 2, value = "or NOW is 480.")
    void p02AReadingAt480CantBe() {
        goTo(479);
        due(x.reading(479, SEA10), 1);
        x.go(1);
        due(x.reading(479, SEA10), NONE);
        due(x.reading(0, SEA10), NONE);
        due(x.count(2), 1);
    }

    // ---- 3: drift

    @Says(promise = 3, value = "A DRIFT: how many there are")
    void p03ADriftAnswersHowManyThereAre() {
        due(x.drift(0, 479, 0), 1);
        due(x.drift(3, 3, 5), 2);
        due(x.count(3), 2);
    }

    @Says(promise = 3, value = "NONE if it can't be")
    void p03ADriftOutOfItsBoundsCantBe() {
        x.reading(5, SEA10);
        due(x.drift(-1, 5, 1), NONE);
        due(x.drift(5, 480, 1), NONE);
        due(x.drift(480, 480, 1), NONE);
        due(x.drift(5, 5, 31), NONE);
        due(x.drift(5, 5, -31), NONE);
        for (int far : FAR) {
            due(x.drift(far, 5, 1), NONE);
            due(x.drift(5, far, 1), NONE);
            due(x.drift(5, 5, far), NONE);
        }
        due(x.known(5, 0, 0), 10);
        due(x.count(3), 0);
    }

    @Says(promise = 3, value = "to is below from")
    void p03ADriftWithToBelowFromCantBe() {
        due(x.drift(5, 4, 1), NONE);
        due(x.drift(479, 0, 1), NONE);
        due(x.drift(5, 5, 1), 1);
    }

    @Says(promise = 3, value = "30 were told")
    void p03ADriftMoreThan30CantBe() {
        for (int i = 1; i <= 30; i++) {
            due(x.drift(0, 0, 0), i);
        }
        due(x.drift(0, 0, 0), NONE);
        due(x.count(3), 30);
    }

    @Says(promise = 3, value = "or NOW is 480.")
    void p03ADriftAt480CantBe() {
        goTo(479);
        due(x.drift(479, 479, 1), 1);
        x.go(1);
        due(x.drift(479, 479, 1), NONE);
        due(x.count(3), 1);
    }

    // ---- 4: known

    @Says(promise = 4, value = "KNOWN for a SPELL as of a SPELL: 0 HEIGHT, 1 PERIOD, 2 WAY")
    void p04KnownTellsHeightPeriodAndWay() {
        x.reading(7, what(33, 12, -1));
        due(x.known(7, 0, 0), 33);
        due(x.known(7, 0, 1), 12);
        due(x.known(7, 0, 2), -1);
    }

    @Says(promise = 4, value = "VOID for others.")
    void p04OfOthersNothingIsKnown() {
        x.reading(0, SEA10);
        due(x.known(0, 0, 3), VOID);
        due(x.known(0, 0, -1), VOID);
        due(x.known(-1, 0, 0), VOID);
        due(x.known(480, 0, 0), VOID);
        due(x.known(0, -1, 0), VOID);
        due(x.known(0, 480, 0), VOID);
        for (int far : FAR) {
            due(x.known(far, 0, 0), VOID);
            due(x.known(0, far, 0), VOID);
            due(x.known(0, 0, far), VOID);
        }
        goTo(480);
        due(x.known(0, 480, 0), VOID);
        due(x.known(0, 479, 0), 10);
    }

    // ---- 5: feed

    @Says(promise = 5, value = "Bytes come behind those of the TEXT")
    void p05BytesComeBehindThoseOfTheText() {
        text("pay 1");
        due(x.feed(0x2b323b20, 0x20202020, 0x20202020, 0x20202020, 0x20202020), 25);
        due(x.fault(), NONE);
        x.sheet();
        x.force(0, 0);
        x.raft(1, 8);
        x.go(1);
        due(x.booked(0, 1), 3);
    }

    /** "pay 12+34;   rise 1>", then a byte above 127 in each place. */
    @Says(promise = 5, value = "of each number the highest first (20 of them): how many there are")
    void p05TheHighestByteOfEachNumberIsFirst() {
        due(x.feed(0x70617920, 0x31322b33, 0x343b2020, 0x20726973, 0x6520313e), 20);
        due(x.fault(), 20);
        x.end(10);
        due(x.fault(), NONE);
        for (int i = 0; i < 20; i++) {
            x.end(0);
            int[] n = {0x20202020, 0x20202020, 0x20202020, 0x20202020, 0x20202020};
            n[i / 4] |= 0x80 << 8 * (3 - i % 4);
            due(x.feed(n[0], n[1], n[2], n[3], n[4]), 20);
            due(x.fault(), i);
        }
    }

    @Says(promise = 5, value = "NONE if there would be more than 400.")
    void p05MoreThan400BytesCantBe() {
        for (int i = 1; i <= 20; i++) {
            due(x.feed(0x20202020, 0x20202020, 0x20202020, 0x20202020, 0x20202020), 20 * i);
        }
        due(x.feed(-1, -1, -1, -1, -1), NONE);
        x.end(381);
        due(x.feed(-1, -1, -1, -1, -1), NONE);
        due(x.count(7), 381);
        due(x.fault(), NONE);
        x.end(380);
        due(x.feed(-1, -1, -1, -1, -1), 400);
        due(x.fault(), 380);
    }

    // ---- 6: end

    @Says(promise = 6, value = "The TEXT has its first n bytes alone: true")
    void p06TheTextHasItsFirstBytesAlone() {
        text("pay 123;");
        due(x.end(8), true);
        due(x.fault(), NONE);
        due(x.end(7), true);
        due(x.fault(), 7);
        due(x.count(7), 7);
        due(x.end(0), true);
        due(x.fault(), NONE);
    }

    @Says(promise = 6, value = "false if it has not so many")
    void p06ATextOfFewerBytesStays() {
        due(x.end(1), false);
        text("pay 123;");
        due(x.end(9), false);
        due(x.end(401), false);
        due(x.end(MAX), false);
        due(x.count(7), 8);
        x.end(3);
        due(x.end(8), false);
        due(x.count(7), 3);
    }

    @Says(promise = 6, value = "or n is below 0.")
    void p06NotFewerThanNoBytes() {
        text("pay 123;");
        due(x.end(-1), false);
        due(x.end(MIN), false);
        due(x.count(7), 8);
    }

    // ---- 7, 8: fault, sheet

    @Says(promise = 7, value = "The FAULT of the TEXT.")
    void p07TheFaultOfTheTextIsAskedForAgainAndAgain() {
        due(x.fault(), NONE);
        text("pay 5 5;");
        due(x.fault(), 6);
        due(x.fault(), 6);
        due(x.count(7), 8);
        x.end(5);
        due(x.fault(), 5);
        x.end(3);
        due(x.fault(), 3);
        x.end(2);
        due(x.fault(), 0);
    }

    @Says(promise = 8, value = "A SHEET comes of the TEXT, which is empty then: its number")
    void p08ASheetComesOfTheTextWhichIsEmptyThen() {
        due(sheetOf("pay 1;"), 0);
        due(x.count(7), 0);
        due(x.count(4), 1);
        due(x.sheet(), 1);
        due(sheetOf("pay 2;"), 2);
        // What comes into the TEXT then does not change the SHEETS that came of it.
        text("pay 999; sink 1=1;");
        x.raft(1, 8);
        x.force(0, 0);
        x.force(1, 0);
        x.go(1);
        due(x.booked(0, 1), 1);
        due(x.why(0, 0), NONE);
    }

    @Says(promise = 8, value = "NONE with a FAULT (it stays)")
    void p08ATextWithAFaultStays() {
        due(sheetOf("pay 1"), NONE);
        due(x.count(7), 5);
        due(x.count(4), 0);
        x.feed(0x3b202020, 0x20202020, 0x20202020, 0x20202020, 0x20202020);
        due(x.sheet(), 0);
    }

    @Says(promise = 8, value = "or if 10 came.")
    void p08ASheetMoreThan10CantBe() {
        for (int i = 0; i < 10; i++) {
            due(x.sheet(), i);
        }
        due(sheetOf("pay 1;"), NONE);
        due(x.count(7), 6);
        due(x.count(4), 10);
        due(x.force(9, 0), 1);
        due(x.force(10, 0), NONE);
    }

    // ---- 9, 10: force, why

    @Says(promise = 9, value = "A SHEET is put IN FORCE from a SPELL on: how many were")
    void p09ASheetIsPutInForceFromASpellOn() {
        sheetOf("pay 1;");
        due(x.force(0, 3), 1);
        due(x.force(0, 3), 2);
        due(x.force(0, 1), 3);
        due(x.why(3, 0), NONE);
        due(x.why(3, 1), 0);
    }

    @Says(promise = 9, value = "NONE if there is none such")
    void p09NoSheetOfThatNumber() {
        due(x.force(0, 0), NONE);
        sheetOf("pay 1;");
        due(x.force(1, 0), NONE);
        due(x.force(-1, 0), NONE);
        for (int far : FAR) {
            due(x.force(far, 0), NONE);
        }
        due(x.force(0, 0), 1);
    }

    @Says(promise = 9, value = "the SPELL isn't NOW .. 479")
    void p09ASpellThatIsOverOrNone() {
        sheetOf("pay 1;");
        x.go(2);
        due(x.force(0, 1), NONE);
        due(x.force(0, -1), NONE);
        due(x.force(0, 480), NONE);
        for (int far : FAR) {
            due(x.force(0, far), NONE);
        }
        due(x.why(3, 479), NONE);
        due(x.force(0, 2), 1);
        due(x.force(0, 479), 2);
        goTo(480);
        due(x.force(0, 480), NONE);
        due(x.force(0, 479), NONE);
    }

    @Says(promise = 9, value = "or 15 were.")
    void p09ASheetIsPutInForceNoMoreThan15Times() {
        sheetOf("pay 1;");
        sheetOf("pay 2;");
        for (int i = 1; i <= 15; i++) {
            due(x.force(0, 20 - i), i);
        }
        due(x.force(1, 30), NONE);
        due(x.why(3, 479), 0);
    }

    @Says(promise = 10, value = "The SHEET by which a CLAUSE (0 sink, 1 rise, 2 boat, 3 pay) is IN FORCE in a SPELL")
    void p10EachClauseHasItsSheet() {
        sheetOf("sink 1=1;");
        sheetOf("rise 1=1;");
        sheetOf("boat 1=1;");
        sheetOf("pay 1;");
        for (int sheet = 0; sheet < 4; sheet++) {
            x.force(sheet, sheet);
        }
        for (int clause = 0; clause < 4; clause++) {
            due(x.why(clause, clause), clause);
            due(x.why(clause, 479), clause);
        }
        x.go(10);
        due(x.why(0, 0), 0);
    }

    @Says(promise = 10, value = "NONE if there is none")
    void p10AClauseMayHaveNoSheet() {
        due(x.why(0, 0), NONE);
        sheetOf("pay 1;");
        due(x.why(3, 479), NONE);
        x.force(0, 5);
        due(x.why(3, 4), NONE);
        due(x.why(3, 5), 0);
        due(x.why(0, 5), NONE);
        due(x.why(1, 5), NONE);
        due(x.why(2, 5), NONE);
    }

    @Says(promise = 10, value = "or none such.")
    void p10NoSuchClauseOrSpell() {
        sheetOf("sink 1=1; rise 1=1; boat 1=1; pay 1;");
        x.force(0, 0);
        due(x.why(-1, 0), NONE);
        due(x.why(4, 0), NONE);
        due(x.why(0, -1), NONE);
        due(x.why(0, 480), NONE);
        for (int far : FAR) {
            due(x.why(far, 0), NONE);
            due(x.why(0, far), NONE);
        }
        due(x.why(0, 0), 0);
        due(x.why(3, 479), 0);
    }

    // ---- 11, 12: raft, lane

    @Says(promise = 11, value = "A raft: its number")
    void p11ARaftHasItsNumber() {
        due(x.raft(4, 9), 0);
        due(x.raft(5, 7), 1);
        due(x.told(0, 2), 4);
        due(x.told(0, 3), 9);
        due(x.told(1, 2), 5);
        due(x.told(1, 3), 7);
        goTo(480);
        due(x.raft(6, 6), 2);
    }

    @Says(promise = 11, value = "NONE if it can't be")
    void p11ARaftOutOfItsBoundsCantBe() {
        due(x.raft(0, 8), NONE);
        due(x.raft(21, 8), NONE);
        due(x.raft(5, 1), NONE);
        due(x.raft(5, 21), NONE);
        for (int far : FAR) {
            due(x.raft(far, 8), NONE);
            due(x.raft(5, far), NONE);
        }
        due(x.count(1), 0);
        due(x.raft(1, 20), 0);
        due(x.raft(20, 2), 1);
    }

    @Says(promise = 11, value = "or 10 came.")
    void p11ARaftMoreThan10CantBe() {
        for (int i = 0; i < 10; i++) {
            due(x.raft(1, 2), i);
        }
        due(x.raft(1, 2), NONE);
        due(x.count(1), 10);
        due(x.told(10, 2), NONE);
    }

    @Says(promise = 12, value = "A LANE: how many there are")
    void p12ALaneAnswersHowManyThereAre() {
        due(x.lane(0, 0, 59), 1);
        due(x.lane(0, 0, 59), 2);
        due(x.count(6), 2);
    }

    @Says(promise = 12, value = "NONE if there is no such COLUMN")
    void p12ALaneOfNoColumn() {
        due(x.lane(-1, 0, 0), NONE);
        due(x.lane(10, 0, 0), NONE);
        for (int far : FAR) {
            due(x.lane(far, 0, 0), NONE);
        }
        due(x.count(6), 0);
        due(x.lane(0, 0, 0), 1);
        due(x.lane(9, 0, 0), 2);
    }

    @Says(promise = 12, value = "from or to isn't 0 .. 59")
    void p12ALaneOfNoDays() {
        due(x.lane(0, -1, 0), NONE);
        due(x.lane(0, 0, 60), NONE);
        due(x.lane(0, 60, 60), NONE);
        for (int far : FAR) {
            due(x.lane(0, far, 59), NONE);
            due(x.lane(0, 0, far), NONE);
        }
        due(x.lane(0, 0, 0), 1);
        due(x.lane(0, 59, 59), 2);
    }

    @Says(promise = 12, value = "to is below from")
    void p12ALaneWithToBelowFrom() {
        due(x.lane(0, 6, 5), NONE);
        due(x.lane(0, 59, 0), NONE);
        due(x.lane(0, 5, 5), 1);
    }

    @Says(promise = 12, value = "or 10 are.")
    void p12ALaneMoreThan10CantBe() {
        for (int i = 1; i <= 10; i++) {
            due(x.lane(0, 59, 59), i);
        }
        due(x.lane(1, 0, 0), NONE);
        due(x.count(6), 10);
        x.raft(1, 2);
        due(x.lay(0, 10, 50), 1);
    }

    // ---- 13: lay

    @Says(promise = 13, value = "A raft is LAID (place is COLUMN * 10 + ROW): how many THINGS there are")
    void p13ARaftIsLaid() {
        x.raft(20, 8);
        x.raft(20, 8);
        due(x.lay(1, 73, 50), 1);
        due(x.lay(0, 2, 5000), 2);
        due(x.count(5), 2);
        due(x.told(1, 1), 73);
        x.reading(0, SEA10);
        x.go(1);
        due(x.booked(0, 17), 400);
        due(x.booked(0, 10), 400);
        due(x.booked(0, 13), 800);
    }

    @Says(promise = 13, value = "NONE if there is none such ON SHORE")
    void p13NoSuchRaftOnShore() {
        due(x.lay(0, 0, 50), NONE);
        x.raft(15, 8);
        due(x.lay(1, 0, 50), NONE);
        due(x.lay(-1, 0, 50), NONE);
        for (int far : FAR) {
            due(x.lay(far, 0, 50), NONE);
        }
        due(x.lay(0, 0, 50), 1);
        due(x.lay(0, 10, 50), NONE);
        inForce("sink spell = 0; rise spell = 1;", 0);
        x.go(1);
        due(x.told(0, 0), 2);
        due(x.lay(0, 10, 50), NONE);
        x.reading(1, what(120, 8, 0));
        x.go(1);
        due(x.told(0, 0), 3);
        due(x.lay(0, 10, 50), NONE);
        due(x.count(5), 1);
    }

    @Says(promise = 13, value = "no such place")
    void p13NoSuchPlace() {
        x.raft(5, 8);
        for (int place : new int[] {-1, -10, 5, 9, 45, 49, 95, 99, 100, 110}) {
            due(x.lay(0, place, 50), NONE);
        }
        for (int far : FAR) {
            due(x.lay(0, far, 50), NONE);
        }
        due(x.told(0, 0), 0);
        due(x.lay(0, 94, 50), 1);
    }

    @Says(promise = 13, value = "it is shut NOW")
    void p13APlaceThatIsShutNow() {
        x.raft(5, 8);
        x.raft(5, 8);
        x.lane(4, 1, 1);
        x.lane(5, 0, 0);
        due(x.lay(0, 50, 50), NONE);
        due(x.lay(0, 44, 50), 1);
        goTo(8);
        due(x.lay(1, 40, 50), NONE);
        due(x.lay(1, 50, 50), 2);
        // A LANE that shuts where rafts lie leaves them there.
        due(x.told(0, 0), 1);
    }

    @Says(promise = 13, value = "or taken")
    void p13APlaceThatIsTaken() {
        laid(5, 8, 44, 50);
        x.raft(5, 8);
        due(x.lay(1, 44, 50), NONE);
        due(x.told(1, 0), 0);
        due(x.lay(1, 43, 50), 2);
    }

    @Says(promise = 13, value = "STRENGTH can't be")
    void p13AStrengthThatCantBe() {
        x.raft(5, 8);
        due(x.lay(0, 0, 9), NONE);
        due(x.lay(0, 0, 0), NONE);
        due(x.lay(0, 0, 5001), NONE);
        for (int far : FAR) {
            due(x.lay(0, 0, far), NONE);
        }
        due(x.count(5), 0);
        due(x.lay(0, 0, 10), 1);
        x.raft(5, 8);
        due(x.lay(1, 1, 5000), 2);
    }

    @Says(promise = 13, value = "or no THING more can be.")
    void p13NoThingMoreThan200() {
        x.raft(5, 8);
        x.raft(5, 8);
        equip(0, 2);
        for (int i = 0; i < 99; i++) {
            x.lay(0, 0, 50);
            x.send(0, 0, 4, 1, 0);
            x.go(1);
        }
        due(x.count(5), 198);
        due(x.lay(0, 0, 50), 199);
        due(x.lay(1, 1, 50), 200);
        x.raft(5, 8);
        due(x.lay(2, 2, 50), NONE);
        due(x.told(2, 0), 0);
        due(x.count(5), 200);
    }

    /** A THING is kept with its SPELL, and 480 is none. */
    @Says(promise = 13, value = "or no THING more can be.")
    void p13NoThingAt480() {
        x.raft(5, 8);
        x.raft(5, 8);
        goTo(479);
        due(x.lay(0, 0, 50), 1);
        x.go(1);
        due(x.lay(1, 1, 50), NONE);
        due(x.told(1, 0), 0);
        due(x.count(5), 1);
    }

    // ---- 14, 15: base, rated

    @Says(promise = 14, value = "BASE: true")
    void p14BaseIsTold() {
        x.reading(0, what(10, 10, 0));
        x.go(1);
        due(x.base(11000), true);
        due(x.beach(0, 100, 100, true), 10);
        due(x.base(0), true);
        due(x.beach(0, 100, 100, true), -1);
        due(x.base(288000), true);
        due(x.beach(0, 100, 100, true), 287);
    }

    @Says(promise = 14, value = "false if it isn't 0 .. 288000.")
    void p14ABaseOutOfItsBounds() {
        x.go(1);
        due(x.base(-1), false);
        due(x.base(288001), false);
        for (int far : FAR) {
            due(x.base(far), false);
        }
        due(x.beach(0, 100, 100, true), 50);
    }

    @Says(promise = 15, value = "RATED: true")
    void p15RatedIsTold() {
        laid(15, 8, 0, 10);
        x.reading(0, what(20, 8, 0));
        x.go(1);
        due(x.rated(19), true);
        due(x.blame(0, 0), 1);
        due(x.rated(20), true);
        due(x.blame(0, 0), 0);
        due(x.rated(0), true);
        due(x.blame(0, 0), 1);
        due(x.rated(120), true);
        due(x.blame(0, 0), 0);
    }

    @Says(promise = 15, value = "false if it can't be.")
    void p15ARatedOutOfItsBounds() {
        laid(15, 8, 0, 10);
        x.reading(0, what(61, 8, 0));
        x.go(1);
        due(x.rated(-1), false);
        due(x.rated(121), false);
        for (int far : FAR) {
            due(x.rated(far), false);
        }
        due(x.blame(0, 0), 1);
        x.drift(0, 0, -1);
        due(x.blame(0, 0), 0);
    }

    // ---- 16: go

    @Says(promise = 16, value = "n SPELLS go (0 .. 80; up to 480): NOW")
    void p16SpellsGo() {
        due(x.go(0), 0);
        due(x.go(1), 1);
        due(x.go(80), 81);
        due(x.count(0), 81);
        due(x.booked(80, 0), 0);
        due(x.booked(81, 0), VOID);
    }

    @Says(promise = 16, value = "up to 480")
    void p16SpellsGoUpTo480() {
        goTo(479);
        due(x.go(80), 480);
        due(x.go(80), 480);
        due(x.go(0), 480);
        due(x.booked(479, 0), 0);
        due(x.booked(480, 0), VOID);
    }

    @Says(promise = 16, value = "NONE for another n.")
    void p16AnotherN() {
        due(x.go(-1), NONE);
        due(x.go(81), NONE);
        for (int far : FAR) {
            due(x.go(far), NONE);
        }
        due(x.count(0), 0);
        goTo(480);
        due(x.go(81), NONE);
        due(x.go(-1), NONE);
    }

    // ---- 17: told

    @Says(promise = 17, value = "Of a raft, as BOOKED: 0 how it is, 1 its place (NONE), 2 SIZE, 3 SUIT")
    void p17ToldHowARaftIsAndWhere() {
        x.raft(15, 9);
        due(x.told(0, 0), 0);
        due(x.told(0, 1), NONE);
        x.lay(0, 34, 10);
        due(x.told(0, 0), 1);
        due(x.told(0, 1), 34);
        inForce("sink spell = 0; rise spell = 1;", 0);
        x.go(1);
        due(x.told(0, 0), 2);
        due(x.told(0, 1), 34);
        x.reading(1, what(120, 8, 0));
        x.go(1);
        due(x.told(0, 0), 3);
        due(x.told(0, 1), NONE);
        due(x.told(0, 2), 15);
        due(x.told(0, 3), 9);
    }

    @Says(promise = 17, value = "as BOOKED")
    void p17ToldAsBookedWhateverIsKnownLater() {
        laid(15, 8, 0, 200);
        sea(0, 9, SEA10);
        x.go(2);
        x.reading(0, what(120, 8, 0));
        due(x.told(0, 0), 1);
        due(x.told(0, 5), 342);
        due(x.told(0, 21), 40);
        due(x.told(0, 31), NONE);
        due(x.would(0, 0), 3);
        due(x.told(0, 0), 1);
    }

    @Says(promise = 17, value = "4 LEAK, 5 POWER of the last SPELL")
    void p17ToldLeakAndPowerOfTheLastSpell() {
        laid(20, 8, 0, 5000);
        due(x.told(0, 4), 0);
        due(x.told(0, 5), 0);
        sea(0, 20, SEA10);
        x.go(17);
        due(x.told(0, 4), 1);
        due(x.told(0, 5), 396);
        trip(0, 0, 4, 0);
        due(x.told(0, 0), 0);
        due(x.told(0, 5), 396);
        due(x.told(0, 4), 1);
        x.go(1);
        due(x.told(0, 5), 0);
        x.lay(0, 0, 50);
        due(x.told(0, 5), 0);
    }

    @Says(promise = 17, value = "6 bits of its chains that hold")
    void p17ToldTheChainsThatHold() {
        laid(15, 8, 0, 1000);
        laid(15, 8, 1, 1000);
        laid(15, 8, 2, 1000);
        inForce("sink size = 15 and spell = 7;", 0);
        due(x.told(0, 6), 7);
        x.reading(0, what(120, 8, 1));
        x.go(1);
        due(x.told(0, 6), 6);
        x.reading(1, what(95, 8, -1));
        x.go(1);
        due(x.told(0, 6), 2);
        x.reading(2, FLAT);
        goTo(8);
        due(x.told(0, 0), 2);
        due(x.told(0, 6), 2);
        trip(0, 0, 2, 500);
        due(x.told(0, 6), 6);
        trip(0, 0, 4, 0);
        due(x.told(0, 6), 0);
    }

    @Says(promise = 17, value = "7 POWER of all SPELLS")
    void p17ToldThePowerOfAllSpells() {
        laid(20, 8, 0, 5000);
        due(x.told(0, 7), 0);
        x.reading(0, SEA10);
        x.reading(1, what(20, 8, 0));
        x.reading(2, FLAT);
        x.go(3);
        due(x.told(0, 7), 2000);
        trip(0, 0, 4, 0);
        due(x.told(0, 7), 2000);
    }

    @Says(promise = 17, value = "10, 20, 30 and a chain: STRENGTH, WEAR, the SPELL in which it broke (NONE).")
    void p17ToldOfAChain() {
        laid(15, 8, 0, 300);
        x.reading(0, what(25, 8, 0));
        x.go(2);
        int[] due = {300, 300, 300, 0, 200, 0, NONE, 1, NONE};
        for (int i = 0; i < 9; i++) {
            due(x.told(0, 10 + i / 3 * 10 + i % 3), due[i]);
        }
    }

    @Says(promise = 17, value = "NONE for others")
    void p17OfOthersNothingIsTold() {
        laid(5, 8, 0, 50);
        for (int what : new int[] {-1, 8, 9, 13, 19, 23, 29, 33, 39, 40, 41, 42, 100, 110, 120, 130, 1000, 3000}) {
            due(x.told(0, what), NONE);
        }
        for (int far : FAR) {
            due(x.told(0, far), NONE);
        }
    }

    @Says(promise = 17, value = "or if there is none such.")
    void p17OfNoRaftNothingIsTold() {
        due(x.told(0, 2), NONE);
        x.raft(5, 8);
        due(x.told(0, 2), 5);
        due(x.told(1, 2), NONE);
        due(x.told(-1, 2), NONE);
        for (int far : FAR) {
            due(x.told(far, 2), NONE);
        }
    }

    @Says(promise = 17, value = "(A raft ON SHORE has no chains: 0, 0, 0, NONE.)")
    void p17ARaftOnShoreHasNoChains() {
        x.raft(15, 8);
        noChains();
        x.lay(0, 0, 300);
        x.reading(0, what(25, 8, 0));
        x.go(2);
        due(x.told(0, 31), 1);
        trip(0, 0, 4, 0);
        noChains();
    }

    private void noChains() {
        due(x.told(0, 6), 0);
        for (int chain = 0; chain < 3; chain++) {
            due(x.told(0, 10 + chain), 0);
            due(x.told(0, 20 + chain), 0);
            due(x.told(0, 30 + chain), NONE);
        }
    }

    // ---- 18: booked

    @Says(promise = 18, value = "Of a SPELL that is over, BOOKED: 0 POWER of all, 1 PAY of all; 10 and a COLUMN: what PASSES")
    void p18BookedOfAllRafts() {
        laid(20, 8, 0, 5000);
        laid(20, 8, 91, 5000);
        inForce("pay 5 - ready;", 0);
        x.raft(1, 8);
        sea(0, 9, SEA10);
        due(x.booked(0, 0), VOID);
        x.go(1);
        due(x.booked(0, 0), 800);
        due(x.booked(0, 1), 13);
        for (int column = 0; column < 10; column++) {
            due(x.booked(0, 10 + column), column == 0 || column == 9 ? 400 : 800);
        }
    }

    @Says(promise = 18, value = "VOID for others")
    void p18OfOthersNothingIsBooked() {
        x.go(1);
        for (int what : new int[] {-1, 2, 9, 20, 21}) {
            due(x.booked(0, what), VOID);
        }
        for (int far : FAR) {
            due(x.booked(0, far), VOID);
        }
        due(x.booked(0, 19), 0);
    }

    @Says(promise = 18, value = "or if there is none such.")
    void p18OfASpellThatIsNotOverNothingIsBooked() {
        due(x.booked(0, 0), VOID);
        x.go(3);
        due(x.booked(2, 0), 0);
        due(x.booked(3, 0), VOID);
        due(x.booked(-1, 0), VOID);
        due(x.booked(480, 0), VOID);
        for (int far : FAR) {
            due(x.booked(far, 0), VOID);
        }
        goTo(480);
        due(x.booked(479, 0), 0);
        due(x.booked(480, 0), VOID);
    }

    // ---- 19: right

    @Says(promise = 19, value = "RIGHT of it as of a SPELL (it .. NOW, 479 at most): likewise.")
    void p19RightIsAsOfTheSpellUpToNow() {
        laid(20, 8, 0, 5000);
        inForce("pay height;", 0);
        sea(0, 9, SEA10);
        x.go(2);
        x.reading(0, what(20, 8, 0));
        due(x.right(1, 0, 0), VOID);
        due(x.right(1, 1, 0), 400);
        due(x.right(1, 2, 0), 1600);
        due(x.right(1, 3, 0), VOID);
        due(x.right(0, 0, 1), 10);
        due(x.right(0, 2, 1), 20);
        due(x.right(0, 1, 10), 400);
        due(x.right(0, 2, 19), 3200);
        due(x.right(2, 2, 0), VOID);
        due(x.right(-1, 0, 0), VOID);
    }

    @Says(promise = 19, value = "479 at most")
    void p19RightIsAsOf479AtMost() {
        goTo(480);
        due(x.right(479, 479, 0), 0);
        due(x.right(0, 479, 0), 0);
        due(x.right(479, 480, 0), VOID);
        due(x.right(0, 480, 0), VOID);
        due(x.right(480, 480, 0), VOID);
    }

    @Says(promise = 19, value = "likewise.")
    void p19OfOthersNothingIsRight() {
        x.go(2);
        for (int what : new int[] {-1, 2, 9, 20}) {
            due(x.right(0, 1, what), VOID);
        }
        due(x.right(0, -1, 0), VOID);
        for (int far : FAR) {
            due(x.right(far, 1, 0), VOID);
            due(x.right(0, far, 0), VOID);
            due(x.right(0, 1, far), VOID);
        }
        due(x.right(0, 1, 19), 0);
    }

    /** Asked to and fro, it is as if it were asked for the first time. */
    @Says(promise = 19, value = "RIGHT of it as of a SPELL")
    void p19RightGoesByNothingAskedAhead() {
        laid(20, 8, 0, 205);
        x.reading(0, SEA10);
        for (int i = 1; i <= 4; i++) {
            x.go(1);
            x.reading(0, what(10 + i, 8, 0));
        }
        for (int times = 0; times < 3; times++) {
            due(x.right(0, 4, 0), 14 * 14 * 4);
            due(x.right(0, 0, 0), 400);
            due(x.right(3, 3, 0), 13 * 13 * 4);
            due(x.right(1, 2, 0), 12 * 12 * 4);
            due(x.would(0, 6), 5);
        }
    }

    // ---- 20: owed

    @Says(promise = 20, value = "PAY of SPELLS from .. to that are over: RIGHT as KNOWN NOW less BOOKED")
    void p20OwedIsRightLessBooked() {
        x.raft(1, 8);
        x.raft(1, 8);
        inForce("pay height - 50;", 0);
        sea(0, 9, SEA10);
        x.go(3);
        due(x.owed(0, 2), 0);
        x.reading(1, what(40, 8, 0));
        due(x.owed(0, 0), 0);
        due(x.owed(1, 1), 60);
        due(x.owed(0, 2), 120);
        due(x.owed(1, 2), 120);
        x.drift(0, 2, -10);
        due(x.owed(0, 2), -20 + 40 + 40);
        due(x.owed(0, 0), -20);
    }

    /** Ten rafts, each with 100000 to pay in place of having it to get, in all SPELLS. */
    @Says(promise = 20, value = "RIGHT as KNOWN NOW less BOOKED")
    void p20OwedMayBeMuch() {
        for (int i = 0; i < 10; i++) {
            x.raft(1, 8);
        }
        inForce("pay 99999 * 2 * (height / 60 - 1);", 0);
        for (int spell = 0; spell < 480; spell += 9) {
            x.reading(spell, what(0, 8, 0));
        }
        goTo(479);
        due(x.booked(0, 1), -1000000);
        x.drift(0, 479, 30);
        x.drift(0, 479, 30);
        x.drift(0, 479, 30);
        x.drift(0, 479, 30);
        due(x.owed(0, 478), 479 * 2000000);
    }

    @Says(promise = 20, value = "VOID if there are none such.")
    void p20OfSpellsThatAreNotOverNothingIsOwed() {
        due(x.owed(0, 0), VOID);
        x.go(3);
        due(x.owed(0, 2), 0);
        due(x.owed(2, 2), 0);
        due(x.owed(3, 3), VOID);
        due(x.owed(3, 5), VOID);
        due(x.owed(2, 1), VOID);
        due(x.owed(-1, -1), VOID);
        due(x.owed(480, 480), VOID);
        due(x.owed(MIN, MIN), VOID);
        due(x.owed(MAX, MAX), VOID);
        due(x.owed(MAX, MIN), VOID);
        goTo(480);
        due(x.owed(0, 479), 0);
        due(x.owed(480, 480), VOID);
    }

    // ---- 21: would

    @Says(promise = 21, value = {"How a raft would be by RIGHT as KNOWN NOW, behind the last SPELL that is over",
        "as told of it (0, 4, 6)"})
    void p21HowARaftWouldBe() {
        laid(15, 8, 0, 100);
        sea(0, 20, what(2, 8, 0));
        x.go(16);
        due(x.would(0, 0), 1);
        due(x.would(0, 4), 1);
        due(x.would(0, 6), 7);
        x.reading(15, what(20, 8, 0));
        due(x.would(0, 6), 5);
        due(x.told(0, 6), 7);
        x.reading(15, FLAT);
        due(x.would(0, 4), 0);
        due(x.told(0, 4), 1);
        x.reading(14, what(120, 8, 0));
        due(x.would(0, 0), 3);
        due(x.would(0, 6), 0);
        due(x.told(0, 0), 1);
    }

    /** What is told NOW, or done by a BOAT as the last SPELL ended, is behind that SPELL's end. */
    @Says(promise = 21, value = "behind the last SPELL that is over")
    void p21ThingsOfNowAreLeftOut() {
        laid(15, 8, 0, 5000);
        x.raft(15, 8);
        equip(0, 2);
        x.send(0, 0, 4, 1, 0);
        x.go(1);
        x.lay(1, 1, 50);
        due(x.told(0, 0), 0);
        due(x.told(1, 0), 1);
        due(x.would(0, 0), 1);
        due(x.would(1, 0), 0);
        due(x.would(0, 6), 7);
        due(x.would(1, 6), 0);
        x.go(1);
        due(x.would(0, 0), 0);
        due(x.would(1, 0), 1);
    }

    @Says(promise = 21, value = "NONE for others")
    void p21OfOthersNothing() {
        laid(15, 8, 0, 5000);
        x.go(1);
        for (int what : new int[] {-1, 1, 2, 3, 5, 7, 8, 10, 20, 30}) {
            due(x.would(0, what), NONE);
        }
        for (int far : FAR) {
            due(x.would(0, far), NONE);
        }
    }

    @Says(promise = 21, value = "none such")
    void p21OfNoRaftNothing() {
        x.go(1);
        due(x.would(0, 0), NONE);
        x.raft(1, 8);
        due(x.would(0, 0), 0);
        due(x.would(1, 0), NONE);
        due(x.would(-1, 0), NONE);
        for (int far : FAR) {
            due(x.would(far, 0), NONE);
        }
    }

    @Says(promise = 21, value = "or if NOW is 0.")
    void p21NothingAt0() {
        laid(15, 8, 0, 5000);
        for (int what : new int[] {0, 4, 6}) {
            due(x.would(0, what), NONE);
        }
        x.go(1);
        due(x.would(0, 0), 1);
    }

    // ---- 22: beach

    @Says(promise = 22, value = "BEACH of a COLUMN till NOW, as BOOKED")
    void p22BeachIsThatOfAColumnTillNow() {
        laid(20, 8, 30, 5000);
        x.base(1000);
        x.reading(0, what(20, 8, 0));
        x.reading(1, what(10, 8, 0));
        due(x.beach(3, 100, 100, true), 0);
        x.go(1);
        due(x.beach(3, 100, 100, true), 0);
        due(x.beach(4, 100, 100, true), -2);
        x.base(2000);
        x.go(1);
        due(x.beach(3, 100, 100, true), 1);
        due(x.beach(4, 100, 100, true), -1 + 1);
        x.reading(0, FLAT);
        due(x.beach(4, 100, 100, true), -1 + 1);
    }

    @Says(promise = 22, value = "with FACTORS from .. to (0 .. 200 of 100)")
    void p22FactorsAre0To200() {
        x.go(1);
        due(x.beach(0, 0, 0, true), 0);
        due(x.beach(0, 200, 200, false), 100);
        due(x.beach(0, 0, 200, true), 100);
        due(x.beach(0, 0, 200, false), 0);
        due(x.beach(0, -1, 200, true), VOID);
        due(x.beach(0, 0, 201, true), VOID);
        due(x.beach(0, 201, 201, true), VOID);
        due(x.beach(0, 101, 100, true), VOID);
        for (int far : FAR) {
            due(x.beach(0, far, 200, true), VOID);
            due(x.beach(0, 0, far, true), VOID);
        }
    }

    /** Changes are 3 and -3: the least of each goes by another FACTOR. */
    @Says(promise = 22, value = "the least sum (high false) of all SPELLS' changes times a FACTOR by 100")
    void p22TheLeastAndTheGreatestSum() {
        x.base(3000);
        x.reading(0, FLAT);
        x.reading(1, what(20, 15, 0));
        x.go(2);
        due(x.booked(1, 10), 6000);
        due(x.beach(0, 100, 200, false), 3 - 6);
        due(x.beach(0, 100, 200, true), 6 - 3);
        due(x.beach(0, 0, 100, false), -3);
        due(x.beach(0, 0, 100, true), 3);
    }

    /** 3 by 34 of 100 is 1.02 and by 33 is 0.99; each SPELL's is cut, not their sum. */
    @Says(promise = 22, value = {"(each SPELL's the worst, cut toward 0)", "or the greatest"})
    void p22EachSpellsIsCutTowardNothing() {
        x.base(3000);
        x.reading(0, FLAT);
        x.reading(1, FLAT);
        x.reading(2, what(20, 15, 0));
        x.go(3);
        due(x.beach(0, 33, 33, false), 0);
        due(x.beach(0, 33, 33, true), 0);
        due(x.beach(0, 34, 34, false), 1 + 1 - 1);
        due(x.beach(0, 66, 66, true), 1 + 1 - 1);
        due(x.beach(0, 33, 67, false), -2);
        due(x.beach(0, 33, 67, true), 4);
    }

    @Says(promise = 22, value = "VOID if there is none such.")
    void p22NoSuchColumn() {
        x.go(1);
        due(x.beach(-1, 100, 100, true), VOID);
        due(x.beach(10, 100, 100, true), VOID);
        for (int far : FAR) {
            due(x.beach(far, 100, 100, true), VOID);
        }
        due(x.beach(9, 100, 100, true), 50);
    }

    // ---- 23, 24: parts, load

    @Says(promise = 23, value = "PARTS come on shore: how many there are")
    void p23PartsComeOnShore() {
        due(x.parts(1, 5), 5);
        due(x.parts(1, 3), 8);
        x.load(0, 1, 6);
        due(x.parts(1, 1), 3);
        due(x.count(21), 3);
        due(x.count(20), 0);
    }

    @Says(promise = 23, value = "NONE if there is no such PART")
    void p23NoSuchPart() {
        due(x.parts(-1, 1), NONE);
        due(x.parts(3, 1), NONE);
        for (int far : FAR) {
            due(x.parts(far, 1), NONE);
        }
        due(x.parts(0, 1), 1);
        due(x.parts(2, 1), 1);
    }

    @Says(promise = 23, value = "n isn't 1 .. 20")
    void p23NotSoMany() {
        due(x.parts(0, 0), NONE);
        due(x.parts(0, -1), NONE);
        due(x.parts(0, 21), NONE);
        for (int far : FAR) {
            due(x.parts(0, far), NONE);
        }
        due(x.count(20), 0);
        due(x.parts(0, 1), 1);
        due(x.parts(0, 20), 21);
    }

    @Says(promise = 23, value = "or more than 99 would be.")
    void p23NoMoreThan99() {
        for (int i = 1; i <= 4; i++) {
            due(x.parts(0, 20), 20 * i);
        }
        due(x.parts(0, 20), NONE);
        due(x.parts(0, 19), 99);
        due(x.parts(0, 1), NONE);
        due(x.parts(1, 1), 1);
        due(x.count(20), 99);
        // What is on a BOAT is not on shore.
        x.load(0, 0, 9);
        due(x.parts(0, 10), NONE);
        due(x.parts(0, 9), 99);
    }

    @Says(promise = 24, value = "n of a PART go from shore to a BOAT in port (below 0: back): how many it has")
    void p24PartsGoFromShoreToABoatAndBack() {
        x.parts(2, 10);
        due(x.load(1, 2, 4), 4);
        due(x.load(1, 2, 3), 7);
        due(x.load(1, 2, -5), 2);
        due(x.load(1, 2, 0), 2);
        due(x.load(1, 2, -2), 0);
        due(x.load(1, 2, -1), NONE);
        due(x.count(22), 10);
        due(x.boat(1, 3), 0);
    }

    @Says(promise = 24, value = "NONE if that can't be.")
    void p24NoMoreThanThereAreOnShore() {
        due(x.load(0, 0, 1), NONE);
        x.parts(0, 3);
        x.parts(1, 9);
        due(x.load(0, 0, 4), NONE);
        due(x.load(0, 0, 3), 3);
        due(x.load(0, 0, 1), NONE);
        due(x.boat(0, 1), 3);
    }

    @Says(promise = 24, value = "NONE if that can't be.")
    void p24NoMoreThan9OnABoat() {
        x.parts(0, 20);
        due(x.load(0, 0, 10), NONE);
        due(x.load(0, 0, 5), 5);
        due(x.load(0, 0, 5), NONE);
        due(x.load(0, 0, 4), 9);
        due(x.load(0, 0, 0), 9);
        due(x.count(20), 11);
    }

    @Says(promise = 24, value = "NONE if that can't be.")
    void p24NoMoreBackThanABoatHas() {
        x.parts(0, 20);
        x.load(0, 0, 5);
        x.load(1, 0, 9);
        due(x.load(0, 0, -6), NONE);
        due(x.load(0, 1, -1), NONE);
        due(x.load(0, 0, -5), 0);
        due(x.count(20), 11);
    }

    @Says(promise = 24, value = "NONE if that can't be.")
    void p24NoMoreBackThan99OnShore() {
        x.parts(0, 20);
        x.load(0, 0, 2);
        for (int i = 0; i < 4; i++) {
            x.parts(0, 20);
        }
        due(x.count(20), 98);
        due(x.load(0, 0, -2), NONE);
        due(x.load(0, 0, -1), 1);
        due(x.load(0, 0, -1), NONE);
        due(x.count(20), 99);
        due(x.boat(0, 1), 1);
    }

    @Says(promise = 24, value = "NONE if that can't be.")
    void p24NoSuchBoatOrPart() {
        for (int part = 0; part < 3; part++) {
            x.parts(part, 20);
        }
        due(x.load(-1, 0, 1), NONE);
        due(x.load(3, 0, 1), NONE);
        due(x.load(0, -1, 1), NONE);
        due(x.load(0, 3, 1), NONE);
        for (int far : FAR) {
            due(x.load(far, 0, 1), NONE);
            due(x.load(0, far, 1), NONE);
            due(x.load(0, 0, far), NONE);
        }
        for (int part = 0; part < 3; part++) {
            due(x.count(20 + part), 20);
        }
    }

    @Says(promise = 24, value = "a BOAT in port")
    void p24NotToABoatThatIsOut() {
        x.raft(5, 8);
        x.parts(0, 9);
        x.load(0, 0, 5);
        x.send(0, 0, 0, 2, 50);
        due(x.load(0, 0, 1), NONE);
        due(x.load(0, 0, -1), NONE);
        due(x.load(0, 0, 0), NONE);
        x.go(1);
        due(x.load(0, 0, 1), NONE);
        due(x.load(1, 0, 1), 1);
        x.go(1);
        due(x.load(0, 0, 1), 6);
    }

    // ---- 25: send

    @Says(promise = 25, value = "A BOAT goes out: the last of its SPELLS")
    void p25ABoatGoesOut() {
        x.raft(5, 8);
        for (int boat = 0; boat < 3; boat++) {
            equip(boat, 2);
        }
        due(x.send(0, 0, 4, 1, 0), 0);
        due(x.send(1, 0, 4, 8, 0), 7);
        x.go(3);
        due(x.send(2, 0, 4, 4, 0), 6);
        due(x.boat(0, 0), 1);
        due(x.boat(1, 0), 0);
        due(x.boat(2, 0), 0);
    }

    @Says(promise = 25, value = "NONE if there is no such BOAT in port")
    void p25NoSuchBoatInPort() {
        x.raft(5, 8);
        x.parts(2, 2);
        x.load(0, 2, 2);
        due(x.send(-1, 0, 4, 1, 0), NONE);
        due(x.send(3, 0, 4, 1, 0), NONE);
        for (int far : FAR) {
            due(x.send(far, 0, 4, 1, 0), NONE);
        }
        due(x.send(0, 0, 4, 2, 0), 1);
        due(x.send(0, 0, 4, 2, 0), NONE);
        x.go(1);
        due(x.send(0, 0, 4, 2, 0), NONE);
        x.go(1);
        due(x.send(0, 0, 4, 2, 0), 3);
    }

    @Says(promise = 25, value = "raft or JOB")
    void p25NoSuchRaft() {
        equip(0, 2);
        due(x.send(0, 0, 4, 1, 0), NONE);
        x.raft(5, 8);
        due(x.send(0, 1, 4, 1, 0), NONE);
        due(x.send(0, -1, 4, 1, 0), NONE);
        for (int far : FAR) {
            due(x.send(0, far, 4, 1, 0), NONE);
        }
        due(x.boat(0, 0), 1);
        // One ON SHORE is such a raft; what is to be done there shows as the trip ends.
        due(x.send(0, 0, 4, 1, 0), 0);
    }

    @Says(promise = 25, value = "raft or JOB")
    void p25NoSuchJob() {
        x.raft(5, 8);
        for (int part = 0; part < 3; part++) {
            equip(0, part);
        }
        due(x.send(0, 0, -1, 1, 0), NONE);
        due(x.send(0, 0, -1, 1, 50), NONE);
        due(x.send(0, 0, 5, 1, 0), NONE);
        for (int far : FAR) {
            due(x.send(0, 0, far, 1, 0), NONE);
            due(x.send(0, 0, far, 1, 50), NONE);
        }
        due(x.send(0, 0, 0, 1, 50), 0);
    }

    @Says(promise = 25, value = "it hasn't the PART")
    void p25WithoutThePart() {
        x.raft(5, 8);
        for (int part = 0; part < 3; part++) {
            x.parts(part, 1);
        }
        x.load(0, 0, 1);
        x.load(1, 1, 1);
        x.load(2, 2, 1);
        for (int job = 0; job < 5; job++) {
            for (int boat = 0; boat < 3; boat++) {
                if (boat != (job < 3 ? 0 : job - 2)) {
                    due(x.send(boat, 0, job, 1, job < 3 ? 50 : 0), NONE);
                }
            }
        }
        due(x.send(0, 0, 2, 1, 50), 0);
        due(x.send(1, 0, 3, 1, 0), 0);
        due(x.send(2, 0, 4, 1, 0), 0);
    }

    @Says(promise = 25, value = "SPELLS aren't 1 .. 8")
    void p25NotSoManySpells() {
        x.raft(5, 8);
        equip(0, 2);
        due(x.send(0, 0, 4, 0, 0), NONE);
        due(x.send(0, 0, 4, -1, 0), NONE);
        due(x.send(0, 0, 4, 9, 0), NONE);
        for (int far : FAR) {
            due(x.send(0, 0, 4, far, 0), NONE);
        }
        due(x.boat(0, 0), 1);
    }

    @Says(promise = 25, value = "or lead beyond 480")
    void p25NotBeyond480() {
        laid(5, 8, 0, 50);
        equip(0, 2);
        goTo(473);
        due(x.send(0, 0, 4, 8, 0), NONE);
        due(x.send(0, 0, 4, 7, 0), 479);
        x.go(7);
        due(x.count(0), 480);
        due(x.boat(0, 4), 1);
        due(x.told(0, 0), 0);
        due(x.count(5), 2);
    }

    @Says(promise = 25, value = "STRENGTH can't be (0 but for a chain)")
    void p25AStrengthThatCantBe() {
        x.raft(5, 8);
        for (int part = 0; part < 3; part++) {
            equip(0, part);
            equip(1, part);
            equip(2, part);
        }
        for (int chain = 0; chain < 3; chain++) {
            due(x.send(0, 0, chain, 1, 0), NONE);
            due(x.send(0, 0, chain, 1, 9), NONE);
            due(x.send(0, 0, chain, 1, 5001), NONE);
            for (int far : FAR) {
                due(x.send(0, 0, chain, 1, far), NONE);
            }
        }
        for (int job = 3; job < 5; job++) {
            due(x.send(0, 0, job, 1, 1), NONE);
            due(x.send(0, 0, job, 1, -1), NONE);
            due(x.send(0, 0, job, 1, 50), NONE);
            for (int far : FAR) {
                due(x.send(0, 0, job, 1, far), NONE);
            }
        }
        due(x.send(0, 0, 0, 1, 10), 0);
        due(x.send(1, 0, 1, 1, 5000), 0);
        due(x.send(2, 0, 3, 1, 0), 0);
    }

    @Says(promise = 25, value = "or NOW is 480.")
    void p25NotAt480() {
        x.raft(5, 8);
        equip(0, 2);
        equip(1, 2);
        goTo(479);
        due(x.send(0, 0, 4, 2, 0), NONE);
        due(x.send(0, 0, 4, 1, 0), 479);
        x.go(1);
        due(x.send(1, 0, 4, 1, 0), NONE);
        due(x.send(1, 0, 4, 0, 0), NONE);
        due(x.boat(1, 0), 1);
    }

    // ---- 26: boat

    @Says(promise = 26, value = "Of a BOAT: 0 whether in port, 1, 2, 3 its PARTS, 4 trips done, "
        + "5 trips that turned back (or at whose end nothing could be done).")
    void p26OfABoat() {
        laid(5, 8, 0, 50);
        inForce("boat not spell = 1;", 0);
        for (int part = 0; part < 3; part++) {
            x.parts(part, 9);
            x.load(1, part, part + 4);
        }
        boat(1, 4, 5, 6, 0, 0);
        x.send(1, 0, 2, 1, 60);
        boat(0, 4, 5, 6, 0, 0);
        x.go(1);
        boat(1, 3, 5, 6, 1, 0);
        x.send(1, 0, 3, 3, 0);
        x.go(1);
        boat(1, 3, 5, 6, 1, 1);
        x.send(1, 0, 4, 1, 0);
        x.go(1);
        boat(1, 3, 5, 6, 2, 1);
        x.send(1, 0, 3, 2, 0);
        x.go(2);
        boat(1, 3, 5, 6, 2, 2);
        for (int what = 1; what < 6; what++) {
            due(x.boat(0, what), 0);
        }
    }

    private void boat(int... want) {
        for (int what = 0; what < want.length; what++) {
            due(x.boat(1, what), want[what]);
        }
    }

    @Says(promise = 26, value = "NONE for others")
    void p26OfOthersNothing() {
        for (int what : new int[] {-1, 6, 7, 10}) {
            due(x.boat(0, what), NONE);
        }
        for (int far : FAR) {
            due(x.boat(0, far), NONE);
        }
    }

    @Says(promise = 26, value = "or if there is none such.")
    void p26OfNoBoatNothing() {
        due(x.boat(-1, 0), NONE);
        due(x.boat(3, 0), NONE);
        for (int far : FAR) {
            due(x.boat(far, 0), NONE);
        }
        due(x.boat(0, 0), 1);
        due(x.boat(2, 0), 1);
    }

    // ---- 27, 28: want, forget

    @Says(promise = 27, value = "A JOB wanted: how many there are")
    void p27AJobWantedAnswersHowManyThereAre() {
        due(x.want(3, 3), 1);
        due(x.want(3, 3), 2);
        due(x.count(9), 2);
    }

    @Says(promise = 27, value = "NONE if it can't be")
    void p27AJobOutOfItsBoundsCantBe() {
        due(x.want(0, 1), NONE);
        due(x.want(17, 1), NONE);
        due(x.want(1, 0), NONE);
        due(x.want(1, 1000), NONE);
        for (int far : FAR) {
            due(x.want(far, 1), NONE);
            due(x.want(1, far), NONE);
        }
        due(x.count(9), 0);
        due(x.want(1, 999), 1);
        due(x.want(16, 1), 2);
    }

    @Says(promise = 27, value = "or 6 are.")
    void p27AJobMoreThan6CantBe() {
        for (int i = 1; i <= 6; i++) {
            due(x.want(1, 1), i);
        }
        due(x.want(1, 500), NONE);
        due(x.count(9), 6);
        due(x.plan(40, 5), 0);
        due(x.plan(40, 6), NONE);
        x.forget();
        due(x.want(1, 500), 1);
    }

    @Says(promise = 28, value = "No JOBS are wanted any more: how many were.")
    void p28NoJobsAreWantedAnyMore() {
        due(x.forget(), 0);
        x.want(4, 9);
        x.want(2, 2);
        due(x.forget(), 2);
        due(x.forget(), 0);
        due(x.count(9), 0);
        due(x.plan(40, NONE), 0);
        due(x.plan(40, 0), NONE);
        for (int i = 1; i <= 6; i++) {
            due(x.want(1, 1), i);
        }
        due(x.forget(), 6);
    }

    // ---- 29, 30: window, plan

    @Says(promise = 29, value = "The k-th WINDOW (from 0 on) over n SPELLS: its first SPELL (what 0), length (1)")
    void p29TheKthWindow() {
        inForce("boat not spell = 3;", 0);
        int[] due = {0, 3, 4, 7, 12, 7, 20, 7, 28, 7, 36, 4};
        for (int i = 0; i < due.length; i++) {
            due(x.window(40, i / 2, i % 2), due[i]);
        }
    }

    @Says(promise = 29, value = "NONE if there is none such.")
    void p29NoSuchWindow() {
        inForce("boat not spell = 3;", 0);
        due(x.window(12, 2, 0), NONE);
        due(x.window(12, 1, 0), 4);
        due(x.window(12, -1, 0), NONE);
        due(x.window(12, 0, 2), NONE);
        due(x.window(12, 0, -1), NONE);
        due(x.window(0, 0, 0), NONE);
        due(x.window(41, 0, 0), NONE);
        for (int far : FAR) {
            due(x.window(far, 0, 0), NONE);
            due(x.window(12, far, 0), NONE);
            due(x.window(12, 0, far), NONE);
        }
        inForce("boat 1=2;", 0);
        due(x.window(40, 0, 0), NONE);
    }

    @Says(promise = 30, value = "A PLAN over n SPELLS: its worth (job NONE), or the WINDOW of a JOB (NONE: none)")
    void p30APlanHasItsWorthAndItsWindows() {
        inForce("boat not spell = 3;", 0);
        x.want(3, 20);
        x.want(9, 999);
        x.want(2, 10);
        x.want(7, 30);
        due(x.plan(11, NONE), 50);
        due(x.plan(11, 0), 0);
        due(x.plan(11, 1), NONE);
        due(x.plan(11, 2), NONE);
        due(x.plan(11, 3), 1);
        due(x.plan(10, NONE), 30);
        due(x.plan(10, 0), 0);
        due(x.plan(10, 2), 1);
        due(x.plan(10, 3), NONE);
    }

    @Says(promise = 30, value = "NONE likewise.")
    void p30NoSuchPlan() {
        x.want(1, 7);
        due(x.plan(0, NONE), NONE);
        due(x.plan(41, NONE), NONE);
        due(x.plan(-1, 0), NONE);
        due(x.plan(5, 1), NONE);
        due(x.plan(5, -2), NONE);
        for (int far : FAR) {
            due(x.plan(far, NONE), NONE);
            due(x.plan(5, far), NONE);
        }
        due(x.plan(1, NONE), 7);
        due(x.plan(40, NONE), 7);
    }

    @Says(promise = 30, value = "A PLAN over n SPELLS")
    void p30APlanWithoutAWindowOrAJob() {
        due(x.plan(1, NONE), 0);
        x.want(1, 7);
        inForce("boat 1=2;", 0);
        due(x.plan(40, NONE), 0);
        due(x.plan(40, 0), NONE);
    }

    // ---- 31, 32, 33: place, clear, laying

    @Says(promise = 31, value = "A place for a LAYING: how many there are")
    void p31APlaceAnswersHowManyThereAre() {
        due(x.place(94), 1);
        due(x.place(0), 2);
        due(x.count(10), 2);
    }

    @Says(promise = 31, value = "NONE if it can't be")
    void p31APlaceThatCantBe() {
        for (int place : new int[] {-1, -10, 5, 9, 45, 49, 95, 99, 100, 110}) {
            due(x.place(place), NONE);
        }
        for (int far : FAR) {
            due(x.place(far), NONE);
        }
        due(x.count(10), 0);
        due(x.place(90), 1);
        due(x.place(4), 2);
    }

    @Says(promise = 31, value = "it is there")
    void p31APlaceThatIsThere() {
        due(x.place(11), 1);
        due(x.place(22), 2);
        due(x.place(11), NONE);
        due(x.place(22), NONE);
        due(x.count(10), 2);
        x.clear();
        due(x.place(11), 1);
    }

    @Says(promise = 31, value = "or 8 are.")
    void p31APlaceMoreThan8() {
        for (int i = 1; i <= 8; i++) {
            due(x.place(i * 10), i);
        }
        due(x.place(0), NONE);
        due(x.count(10), 8);
    }

    @Says(promise = 32, value = "No places are told any more: how many were.")
    void p32NoPlacesAreToldAnyMore() {
        x.raft(5, 8);
        due(x.clear(), 0);
        x.place(11);
        x.place(22);
        due(x.clear(), 2);
        due(x.clear(), 0);
        due(x.laying(0, 1, 0, 0, NONE), NONE);
        for (int i = 1; i <= 8; i++) {
            due(x.place(i * 10), i);
        }
        due(x.clear(), 8);
    }

    @Says(promise = 33, value = {"LAYING of rafts (digits, the first the highest; many of them, 1 .. 3, each once)",
        "the POWER (k NONE), or the place of the k-th of them"})
    void p33ALayingOfRafts() {
        for (int size = 1; size <= 4; size++) {
            x.raft(size, 8);
        }
        x.place(0);
        x.place(10);
        x.place(20);
        x.reading(0, SEA10);
        // Of 800: 1 by 21, 2 by 22, 3 by 23, 4 by 24.
        due(x.laying(3, 1, 0, 0, NONE), 133);
        due(x.laying(3, 2, 0, 0, NONE), 38 + 133);
        due(x.laying(213, 3, 0, 0, NONE), 104 + 72 + 133);
        due(x.laying(213, 3, 0, 0, 0), 0);
        due(x.laying(213, 3, 0, 0, 1), 10);
        due(x.laying(213, 3, 0, 0, 2), 20);
        due(x.laying(12, 3, 0, 0, 2), 20);
    }

    @Says(promise = 33, value = "many of them, 1 .. 3")
    void p33NotSoManyRafts() {
        for (int i = 0; i < 5; i++) {
            x.raft(5, 8);
            x.place(i * 10);
        }
        due(x.laying(0, 0, 0, 0, NONE), NONE);
        due(x.laying(0, -1, 0, 0, NONE), NONE);
        due(x.laying(123, 4, 0, 0, NONE), NONE);
        for (int far : FAR) {
            due(x.laying(0, far, 0, 0, NONE), NONE);
        }
        due(x.laying(12, 1, 0, 0, NONE), NONE);
        due(x.laying(123, 2, 0, 0, NONE), NONE);
        due(x.laying(1234, 3, 0, 0, NONE), NONE);
        due(x.laying(123, 3, 0, 0, NONE), 0);
    }

    @Says(promise = 33, value = "each once")
    void p33EachRaftOnce() {
        for (int i = 0; i < 3; i++) {
            x.raft(5, 8);
            x.place(i * 10);
        }
        for (int rafts : new int[] {0, 11, 22}) {
            due(x.laying(rafts, 2, 0, 0, NONE), NONE);
        }
        for (int rafts : new int[] {0, 1, 10, 100, 101, 110, 112, 121, 211, 222}) {
            due(x.laying(rafts, 3, 0, 0, NONE), NONE);
        }
        due(x.laying(21, 3, 0, 0, NONE), 0);
    }

    @Says(promise = 33, value = "NONE if it can't be asked")
    void p33NoSuchRaft() {
        x.raft(5, 8);
        x.place(0);
        x.place(10);
        due(x.laying(1, 1, 0, 0, NONE), NONE);
        due(x.laying(1, 2, 0, 0, NONE), NONE);
        due(x.laying(-1, 1, 0, 0, NONE), NONE);
        due(x.laying(10, 1, 0, 0, NONE), NONE);
        for (int far : FAR) {
            due(x.laying(far, 1, 0, 0, NONE), NONE);
            due(x.laying(far, 3, 0, 0, NONE), NONE);
        }
        due(x.laying(0, 1, 0, 0, NONE), 0);
        x.lay(0, 50, 5000);
        due(x.laying(0, 1, 0, 0, NONE), NONE);
    }

    @Says(promise = 33, value = "Spells are from * 1000 + to.")
    void p33SpellsAreFromAndTo() {
        x.raft(20, 8);
        x.place(0);
        sea(0, 479, SEA10);
        due(x.laying(0, 1, 0, 0, NONE), 400);
        due(x.laying(0, 1, 23, 0, NONE), 24 * 400);
        due(x.laying(0, 1, 24, 0, NONE), NONE);
        due(x.laying(0, 1, 456479, 0, NONE), 24 * 400);
        due(x.laying(0, 1, 455479, 0, NONE), NONE);
        due(x.laying(0, 1, 479479, 0, NONE), 400);
        due(x.laying(0, 1, 479480, 0, NONE), NONE);
        due(x.laying(0, 1, 480480, 0, NONE), NONE);
        due(x.laying(0, 1, 479478, 0, NONE), NONE);
        due(x.laying(0, 1, 1000, 0, NONE), NONE);
        due(x.laying(0, 1, -1, 0, NONE), NONE);
        due(x.laying(0, 1, 1000000, 0, NONE), NONE);
        for (int far : FAR) {
            due(x.laying(0, 1, far, 0, NONE), NONE);
        }
    }

    @Says(promise = 33, value = "NONE if it can't be asked")
    void p33AFloorOutOfItsBounds() {
        x.raft(20, 8);
        x.place(0);
        due(x.laying(0, 1, 0, -1, NONE), NONE);
        due(x.laying(0, 1, 0, 101, NONE), NONE);
        for (int far : FAR) {
            due(x.laying(0, 1, 0, far, NONE), NONE);
        }
        due(x.laying(0, 1, 0, 0, NONE), 0);
        due(x.laying(0, 1, 0, 100, NONE), 0);
    }

    @Says(promise = 33, value = "the place of the k-th of them")
    void p33NoSuchKth() {
        x.raft(20, 8);
        x.raft(20, 8);
        x.place(0);
        x.place(10);
        due(x.laying(0, 1, 0, 0, 1), NONE);
        due(x.laying(1, 2, 0, 0, 2), NONE);
        due(x.laying(1, 2, 0, 0, -2), NONE);
        for (int far : FAR) {
            due(x.laying(1, 2, 0, 0, far), NONE);
        }
        due(x.laying(1, 2, 0, 0, 1), 10);
    }

    @Says(promise = 33, value = "or none can be.")
    void p33NoneCanBe() {
        x.raft(20, 8);
        x.raft(20, 8);
        due(x.laying(0, 1, 0, 0, NONE), NONE);
        due(x.laying(0, 1, 0, 0, 0), NONE);
        x.place(0);
        x.reading(0, SEA10);
        due(x.laying(1, 2, 0, 0, NONE), NONE);
        due(x.laying(0, 1, 0, 51, 0), NONE);
        x.lane(0, 0, 0);
        due(x.laying(0, 1, 0, 0, NONE), NONE);
        due(x.laying(0, 1, 0, 0, 0), NONE);
        x.place(10);
        due(x.laying(0, 1, 0, 0, 0), 10);
    }

    @Says(promise = 33, value = "LAYING of rafts")
    void p33ALayingLaysNoRaft() {
        x.raft(20, 8);
        x.place(0);
        x.reading(0, SEA10);
        due(x.laying(0, 1, 0, 0, NONE), 400);
        due(x.told(0, 0), 0);
        due(x.count(5), 0);
        x.go(1);
        due(x.booked(0, 0), 0);
        due(x.told(0, 4), 0);
        due(x.count(10), 1);
    }

    // ---- 34: blame

    /** A left chain of 500 is worn by 200 a SPELL: above a third, 16666, behind 84 of them, but not behind 71. */
    @Says(promise = 34, value = "WHO PAYS: 0 .. 2")
    void p34WhoPays() {
        laid(15, 8, 0, 10);
        x.reading(0, what(20, 8, 0));
        x.go(1);
        due(x.blame(0, 0), 0);
        x.rated(19);
        due(x.blame(0, 0), 1);
        x = new NoddingRafts();
        laid(1, 8, 0, 500);
        sea(0, 71, what(100, 8, 1));
        goTo(71);
        due(x.told(0, 20), 71 * 200);
        x.rated(120);
        x.reading(71, what(120, 8, 1));
        x.go(1);
        due(x.told(0, 30), 71);
        due(x.blame(0, 0), 0);
        x = new NoddingRafts();
        laid(1, 8, 0, 500);
        sea(0, 84, what(100, 8, 1));
        goTo(84);
        x.rated(120);
        x.reading(84, what(120, 8, 1));
        x.go(1);
        due(x.told(0, 30), 84);
        due(x.told(0, 20), 84 * 200);
        due(x.blame(0, 0), 2);
        x.rated(119);
        due(x.blame(0, 0), 1);
    }

    @Says(promise = 34, value = "NONE if there is no such raft or chain")
    void p34NoSuchRaftOrChain() {
        due(x.blame(0, 0), NONE);
        laid(15, 8, 0, 10);
        x.raft(15, 8);
        x.reading(0, what(20, 8, 0));
        x.go(1);
        due(x.blame(1, 0), NONE);
        due(x.blame(2, 0), NONE);
        due(x.blame(-1, 0), NONE);
        due(x.blame(0, 3), NONE);
        due(x.blame(0, -1), NONE);
        for (int far : FAR) {
            due(x.blame(far, 0), NONE);
            due(x.blame(0, far), NONE);
        }
        due(x.blame(0, 2), 0);
        // Nor is a chain of one raft one of another.
        x.lay(1, 1, 10);
        x.reading(1, what(20, 8, 0));
        x.go(1);
        due(x.blame(1, 0), 0);
        due(x.blame(0, 3), NONE);
        due(x.blame(1, -1), NONE);
    }

    @Says(promise = 34, value = "or it didn't break.")
    void p34AChainThatDidNotBreak() {
        laid(15, 8, 0, 100);
        x.raft(5, 8);
        due(x.blame(0, 1), NONE);
        x.reading(0, what(20, 8, 0));
        x.go(1);
        due(x.blame(0, 0), NONE);
        due(x.blame(0, 1), 0);
        due(x.blame(0, 2), NONE);
        due(x.blame(1, 1), NONE);
        // Nor does one break that only would by what is known later.
        x.reading(0, what(120, 8, 0));
        due(x.would(0, 6), 0);
        due(x.blame(0, 0), NONE);
    }

    // ---- 35, 36: test, next

    @Says(promise = 35, value = "A TEST: SUSPECTS (bits)")
    void p35ATestLeavesSuspects() {
        due(x.test(0, 15, true), 65535);
        due(x.test(0, 0, false), 65534);
        due(x.test(2, 13, true), 16380);
        due(x.test(15, 15, false), 16380);
        due(x.test(5, 8, false), 15900);
        due(x.count(8), 15900);
    }

    @Says(promise = 35, value = "NONE if there are no such JOINTS")
    void p35NoSuchJoints() {
        due(x.test(-1, 3, true), NONE);
        due(x.test(3, 16, true), NONE);
        due(x.test(16, 16, true), NONE);
        due(x.test(-1, -1, true), NONE);
        for (int far : FAR) {
            due(x.test(far, 15, false), NONE);
            due(x.test(0, far, false), NONE);
        }
        due(x.count(8), 65535);
        due(x.test(15, 15, true), 32768);
    }

    @Says(promise = 35, value = "b is below a")
    void p35BBelowA() {
        due(x.test(5, 4, true), NONE);
        due(x.test(15, 0, false), NONE);
        due(x.count(8), 65535);
        due(x.test(5, 5, true), 32);
    }

    @Says(promise = 35, value = "or 20 were told.")
    void p35ATestMoreThan20() {
        for (int i = 0; i < 19; i++) {
            due(x.test(0, 15, true), 65535);
        }
        due(x.test(0, 3, true), 15);
        due(x.test(0, 0, true), NONE);
        due(x.count(8), 15);
        due(x.next(), 1);
    }

    @Says(promise = 36, value = "NEXT: a * 100 + b")
    void p36NextIsAAndB() {
        due(x.next(), 7);
        x.test(10, 15, true);
        due(x.next(), 12);
        x.test(10, 12, false);
        x.test(14, 14, false);
        due(x.count(8), 1 << 13 | 1 << 15);
        due(x.next(), 13);
        x = new NoddingRafts();
        x.test(4, 11, true);
        x.test(4, 4, false);
        due(x.next(), 7);
    }

    /** Whatever the answer, half of 5, 6, 7 and 8 is left by 0 .. 6, the least of all such TESTS. */
    @Says(promise = 36, value = "NEXT: a * 100 + b")
    void p36NextMayBeginAheadOfTheSuspects() {
        x.test(5, 8, true);
        due(x.next(), 6);
        x.test(0, 5, false);
        x.test(8, 8, false);
        due(x.count(8), 1 << 6 | 1 << 7);
        due(x.next(), 6);
    }

    @Says(promise = 36, value = "NONE with fewer than two SUSPECTS.")
    void p36NoNextWithFewerThanTwoSuspects() {
        x.test(3, 4, true);
        due(x.next(), 3);
        x.test(3, 3, true);
        due(x.count(8), 8);
        due(x.next(), NONE);
        x.test(3, 3, false);
        due(x.count(8), 0);
        due(x.next(), NONE);
    }

    // ---- 37: count

    @Says(promise = 37, value = "0 NOW, 1 rafts, 2 READINGS, 3 DRIFTS, 4 SHEETS, 5 THINGS, 6 LANES, 7 bytes of the TEXT, "
        + "8 SUSPECTS (bits), 9 JOBS wanted, 10 places told")
    void p37EachIsCounted() {
        int[] want = {3, 2, 4, 5, 6, 1, 7, 20, 7, 5, 8};
        x.go(3);
        x.raft(1, 2);
        laid(1, 2, 0, 50);
        for (int i = 0; i < 8; i++) {
            if (i < 4) {
                x.reading(i, SEA10);
            }
            if (i < 5) {
                x.drift(i, i, 0);
                x.want(1, 1);
            }
            if (i < 6) {
                x.sheet();
            }
            if (i < 7) {
                x.lane(0, 59, 59);
            }
            x.place(i * 10);
        }
        x.feed(0, 0, 0, 0, 0);
        x.test(0, 2, true);
        for (int what = 0; what <= 10; what++) {
            due(x.count(what), want[what]);
        }
    }

    @Says(promise = 37, value = "20 and a PART: how many on shore.")
    void p37PartsOnShoreAreCounted() {
        for (int part = 0; part < 3; part++) {
            due(x.count(20 + part), 0);
            x.parts(part, 10 + part);
            x.load(0, part, 2 * part);
        }
        due(x.count(20), 10);
        due(x.count(21), 9);
        due(x.count(22), 8);
    }

    @Says(promise = 37, value = "NONE for others.")
    void p37OthersAreNotCounted() {
        for (int what : new int[] {-1, 11, 12, 19, 23, 30, MIN + 20, MIN + 21, MIN + 22}) {
            due(x.count(what), NONE);
        }
        for (int far : FAR) {
            due(x.count(far), NONE);
        }
    }
}
