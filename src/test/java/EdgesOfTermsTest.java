/** A test of its own for each sentence of the document's Terms, at the edges that the sentence names. */
public final class EdgesOfTermsTest extends Checks {
    public static void main(String[] args) throws Exception {
        EdgesOfTermsTest test = new EdgesOfTermsTest();
        test.runAll();
        test.compareWithDocument(true);
    }

    /** What pay comes to in SPELL 0 for one raft ON SHORE. */
    private int paid(String sum) {
        x = new NoddingRafts();
        x.raft(1, 8);
        inForce("pay " + sum + ";", 0);
        x.go(1);
        return x.booked(0, 1);
    }

    /** Whether boat holds in SPELL 0. */
    private boolean holds(String condition) {
        x = new NoddingRafts();
        inForce("boat " + condition + ";", 0);
        return x.window(1, 0, 0) == 0;
    }

    private void dueAll(int[] got, int... want) {
        due(got.length, want.length);
        for (int i = 0; i < want.length; i++) {
            due(got[i], want[i]);
        }
    }

    /** From one what on as many as are asked for. */
    private int[] tolds(int raft, int what, int many) {
        int[] all = new int[many];
        for (int i = 0; i < many; i++) {
            all[i] = x.told(raft, what + i);
        }
        return all;
    }

    /** What PASSES in each COLUMN. */
    private int[] passes(int spell) {
        int[] all = new int[10];
        for (int column = 0; column < 10; column++) {
            all[column] = x.booked(spell, 10 + column);
        }
        return all;
    }

    // ==== 1: SPELLS, READINGS, DRIFTS, what is KNOWN

    @Says("SPELLS are 0 .. 479")
    void spellsAre0To479() {
        due(x.known(-1, 0, 1), VOID);
        due(x.known(0, 0, 1), 8);
        due(x.known(479, 0, 1), 8);
        due(x.known(480, 0, 1), VOID);
    }

    @Says("eight a DAY")
    void eightSpellsAreADay() {
        x.raft(1, 8);
        inForce("pay day * 10 + spell;", 0);
        goTo(480);
        due(x.booked(0, 1), 0);
        due(x.booked(7, 1), 7);
        due(x.booked(8, 1), 10);
        due(x.booked(471, 1), 587);
        due(x.booked(472, 1), 590);
        due(x.booked(479, 1), 597);
    }

    @Says("NOW is one (0 at first; 480 behind the last one).")
    void nowIs0AtFirstAnd480BehindTheLastSpell() {
        due(x.count(0), 0);
        goTo(479);
        due(x.count(0), 479);
        x.go(1);
        due(x.count(0), 480);
        x.go(1);
        due(x.count(0), 480);
    }

    @Says("A READING is told in NOW for a SPELL (0 .. 479, also one to come)")
    void aReadingIsForAnySpell() {
        x.go(5);
        due(x.reading(0, SEA10), 1);
        due(x.reading(5, SEA10), 2);
        due(x.reading(479, SEA10), 3);
        due(x.reading(-1, SEA10), NONE);
        due(x.reading(480, SEA10), NONE);
        due(x.known(0, 4, 0), 0);
        due(x.known(0, 5, 0), 10);
        due(x.known(479, 5, 0), 10);
    }

    @Says("HEIGHT 0 .. 120")
    void aHeightIs0To120() {
        due(x.reading(0, what(0, 8, 0)), 1);
        due(x.known(0, 0, 0), 0);
        due(x.reading(0, what(120, 8, 0)), 2);
        due(x.known(0, 0, 0), 120);
        due(x.reading(0, what(121, 8, 0)), NONE);
        due(x.reading(0, what(-1, 8, 0)), NONE);
        due(x.known(0, 0, 0), 120);
    }

    @Says("PERIOD 2 .. 20")
    void aPeriodIs2To20() {
        due(x.reading(0, what(10, 1, 0)), NONE);
        due(x.reading(0, what(10, 0, 0)), NONE);
        due(x.reading(0, what(10, 2, 0)), 1);
        due(x.known(0, 0, 1), 2);
        due(x.reading(0, what(10, 20, 0)), 2);
        due(x.known(0, 0, 1), 20);
        due(x.reading(0, what(10, 21, 0)), NONE);
        due(x.reading(0, what(10, 99, 0)), NONE);
        due(x.known(0, 0, 1), 20);
    }

    @Says("WAY -1, 0, 1")
    void aWayIsMinus1Or0Or1() {
        for (int way = -1; way <= 1; way++) {
            due(x.reading(0, what(10, 8, way)), way + 2);
            due(x.known(0, 0, 2), way);
        }
        for (int way = 2; way <= 8; way++) {
            due(x.reading(0, what(10, 8, way)), NONE);
        }
        due(x.known(0, 0, 2), 1);
    }

    @Says("(400 at most)")
    void readingsAre400AtMost() {
        for (int i = 1; i <= 400; i++) {
            due(x.reading(i % 7, SEA10), i);
        }
        due(x.reading(7, SEA10), NONE);
        due(x.count(2), 400);
        due(x.known(470, 0, 0), 0);
    }

    @Says("A DRIFT is told in NOW: by how much (-30 .. 30) HEIGHTS read for SPELLS from .. to are to be changed")
    void aDriftIsByMinus30To30() {
        x.reading(0, what(60, 8, 0));
        due(x.drift(0, 0, 30), 1);
        due(x.known(0, 0, 0), 90);
        due(x.drift(0, 0, 31), NONE);
        due(x.drift(0, 0, -31), NONE);
        due(x.known(0, 0, 0), 90);
        due(x.drift(0, 0, -30), 2);
        due(x.known(0, 0, 0), 60);
    }

    @Says("(30 at most).")
    void driftsAre30AtMost() {
        x.reading(0, what(60, 8, 0));
        for (int i = 1; i <= 30; i++) {
            due(x.drift(0, 0, 1), i);
        }
        due(x.known(0, 0, 0), 90);
        due(x.drift(0, 0, 1), NONE);
        due(x.known(0, 0, 0), 90);
        due(x.count(3), 30);
    }

    @Says("KNOWN as of a SPELL s is, for a SPELL t, the latest READING for t told up to s")
    void theLatestReadingToldUpToASpellIsKnown() {
        x.go(2);
        x.reading(5, what(10, 8, 0));
        x.reading(5, what(20, 9, 1));
        x.go(1);
        x.reading(5, what(30, 10, -1));
        due(x.known(5, 1, 0), 0);
        due(x.known(5, 2, 0), 20);
        due(x.known(5, 2, 1), 9);
        due(x.known(5, 2, 2), 1);
        due(x.known(5, 3, 0), 30);
        due(x.known(5, 3, 1), 10);
        due(x.known(5, 3, 2), -1);
        due(x.known(5, 479, 0), 30);
    }

    @Says("(its HEIGHT and all DRIFTS told up to s")
    void driftsCountFromTheSpellOnInWhichTheyAreTold() {
        x.reading(5, what(50, 8, 0));
        x.go(2);
        x.drift(0, 10, 7);
        x.drift(0, 10, 1);
        x.go(1);
        x.drift(0, 10, -20);
        due(x.known(5, 1, 0), 50);
        due(x.known(5, 2, 0), 58);
        due(x.known(5, 3, 0), 38);
    }

    @Says("that hold t")
    void aDriftHoldsItsFirstSpellAndItsLast() {
        for (int spell = 3; spell <= 7; spell++) {
            x.reading(spell, what(50, 8, 0));
        }
        x.drift(4, 6, 5);
        due(x.known(3, 0, 0), 50);
        due(x.known(4, 0, 0), 55);
        due(x.known(5, 0, 0), 55);
        due(x.known(6, 0, 0), 55);
        due(x.known(7, 0, 0), 50);
    }

    @Says("together, brought into 0 .. 120)")
    void heightAndDriftsTogetherAreBroughtInto0To120() {
        x.reading(0, what(100, 8, 0));
        x.drift(0, 0, 30);
        due(x.known(0, 0, 0), 120);
        x.drift(0, 0, -9);
        due(x.known(0, 0, 0), 120);
        x.drift(0, 0, -2);
        due(x.known(0, 0, 0), 119);
        x.reading(1, what(20, 8, 0));
        x.drift(1, 1, -30);
        due(x.known(1, 0, 0), 0);
        x.drift(1, 1, 9);
        due(x.known(1, 0, 0), 0);
        x.drift(1, 1, 2);
        due(x.known(1, 0, 0), 1);
    }

    @Says("without one, that for the latest SPELL ahead of t")
    void withoutAReadingThatOfTheLatestSpellAheadIsKnown() {
        x.reading(2, what(20, 2, 0));
        x.reading(4, what(40, 4, 1));
        x.reading(3, what(30, 3, -1));
        x.reading(6, what(60, 6, 0));
        due(x.known(5, 0, 0), 40);
        due(x.known(5, 0, 1), 4);
        due(x.known(5, 0, 2), 1);
        due(x.known(1, 0, 0), 0);
    }

    @Says("not more than 8 ahead")
    void aSpell8AheadIsNearEnoughAndOne9AheadIsNot() {
        x.reading(0, SEA10);
        due(x.known(8, 0, 0), 10);
        due(x.known(9, 0, 0), 0);
        x.reading(471, SEA10);
        due(x.known(479, 0, 0), 10);
    }

    @Says("that has one")
    void aSpellAheadHasOnlyWhatWasToldUpToTheSpell() {
        x.reading(2, what(20, 8, 0));
        x.go(1);
        x.reading(4, what(40, 8, 0));
        due(x.known(5, 0, 0), 20);
        due(x.known(5, 1, 0), 40);
        due(x.known(11, 0, 0), 0);
        due(x.known(11, 1, 0), 40);
    }

    @Says("by its own SPELL's DRIFTS")
    void aReadingFromAheadGoesByItsOwnSpellsDrifts() {
        x.reading(2, what(20, 8, 0));
        x.drift(2, 2, 5);
        x.drift(3, 10, -7);
        due(x.known(2, 0, 0), 25);
        due(x.known(3, 0, 0), 25);
        due(x.known(10, 0, 0), 25);
    }

    @Says("else HEIGHT 0, PERIOD 8, WAY 0.")
    void withoutAnyReadingTheSeaIsFlat() {
        x.drift(0, 479, 30);
        due(x.known(7, 0, 0), 0);
        due(x.known(7, 0, 1), 8);
        due(x.known(7, 0, 2), 0);
        due(x.known(479, 479, 0), 0);
    }

    // ==== 2: TEXTS

    @Says("TEXTS have at most 400 bytes.")
    void aTextHasAtMost400Bytes() {
        StringBuilder b = new StringBuilder("pay 1");
        while (b.length() < 399) {
            b.append("+1");
        }
        b.append(';');
        due(b.length(), 400);
        due(faultOf(b.toString()), NONE);
        due(x.count(7), 400);
        due(x.feed(0, 0, 0, 0, 0), NONE);
        due(x.count(7), 400);
        due(x.fault(), NONE);
        due(paid(b.substring(4, 399)), 198);
    }

    /** Each byte is a TOKEN of its own, the last one a number or a sign. */
    @Says("TEXTS have at most 400 bytes.")
    void aTextMayHave400Tokens() {
        due(faultOf(")".repeat(400)), 0);
        due(faultOf("+1".repeat(200)), 0);
        due(faultOf("(1".repeat(200)), 0);
        due(faultOf("pay 1" + "+1".repeat(197) + "+"), 400);
        due(faultOf("pay 1" + "+1".repeat(197) + "1"), 400);
        due(faultOf("pay 1" + "+1".repeat(197) + "$"), 399);
    }

    @Says({"TOKENS are words of small letters, numbers of digits, and + - * / ( ) [ ] < > = ;",
        "or of a byte that begins no TOKEN"})
    void eachByteBeginsATokenOrIsAFault() {
        due(faultOf("sink [(12+34-56)*7/8<90] or size>day or not 1=1;"), NONE);
        for (int c = 0; c < 256; c++) {
            boolean reads = c == ' ' || c >= '0' && c <= '9';
            boolean asksForMore = "+-*/;".indexOf(c) >= 0;
            x = new NoddingRafts();
            due(faultOf("pay 5" + (char) c + ";"), reads ? NONE : asksForMore ? 6 : 5);
        }
    }

    @Says("with any blanks (32) between")
    void blanksMayStandBetweenTokens() {
        due(faultOf("pay5;rise1=1;"), NONE);
        due(faultOf("   pay   5   ;   "), NONE);
        due(faultOf("pay\t5;"), 3);
        due(faultOf("pay 5;\n"), 6);
        due(faultOf("pa y 5;"), 0);
        due(faultOf("pay 5 5;"), 6);
        due(faultOf("\u00a0pay 5;"), 0);
    }

    @Says("words and numbers as long as can be.")
    void wordsAndNumbersAreAsLongAsCanBe() {
        due(faultOf("paysize;"), 0);
        due(faultOf("pay sizes;"), 4);
        due(faultOf("pay siz;"), 4);
        due(faultOf("pay heightperiod;"), 4);
        due(faultOf("sink not1=1;"), NONE);
        due(faultOf("sink notsize=1;"), 5);
        due(faultOf("sink 1=1 andnot 1=2;"), 9);
        due(faultOf("pay 5rise 1=1;"), 5);
        due(paid("12345"), 12345);
        due(paid("size12"), 0);
    }

    @Says("A TEXT is CLAUSES, none or more")
    void aTextMayHaveNoClause() {
        due(x.fault(), NONE);
        due(faultOf("    "), NONE);
        due(x.sheet(), 0);
        due(x.force(0, 0), 1);
        for (int clause = 0; clause < 4; clause++) {
            due(x.why(clause, 0), NONE);
        }
        due(faultOf(";"), 0);
    }

    @Says("sink C; rise C; boat C; pay E;")
    void sinkRiseAndBoatAreConditionsAndPayIsASum() {
        due(faultOf("pay 1;boat 1=1;rise 1=1;sink 1=1;"), NONE);
        due(faultOf("sink 1;"), 6);
        due(faultOf("rise 1;"), 6);
        due(faultOf("boat 1;"), 6);
        due(faultOf("pay 1=1;"), 5);
        due(faultOf("size 1;"), 0);
        due(faultOf("not 1=1;"), 0);
        due(faultOf("pay 1"), 5);
        due(faultOf("sink 1=1"), 8);
        due(faultOf("pay ;"), 4);
        due(faultOf("sink ;"), 5);
    }

    @Says("each once at most.")
    void eachClauseStandsOnceAtMost() {
        due(faultOf("pay 1; pay 2;"), 7);
        due(faultOf("sink 1=1; sink 1=1;"), 10);
        due(faultOf("rise 1=1; pay 3; rise 1=1;"), 17);
        due(faultOf("boat 1=1; boat"), 10);
        due(x.sheet(), NONE);
        due(sheetOf("pay 1;"), 0);
        due(sheetOf("pay 1;"), 1);
    }

    @Says("E is T, any number of + T or - T")
    void aSumIsAnyNumberOfProducts() {
        due(paid("7"), 7);
        due(paid("10-3-2+4"), 9);
        due(paid("2+3*4-10/5"), 12);
        due(faultOf("pay +1;"), 4);
        due(faultOf("pay -1;"), 4);
        due(faultOf("pay 1+;"), 6);
        due(faultOf("pay 1+-1;"), 6);
        StringBuilder b = new StringBuilder("1");
        for (int i = 0; i < 197; i++) {
            b.append(i % 3 == 0 ? "-1" : "+1");
        }
        due(paid(b.toString()), 1 + 131 - 66);
    }

    @Says("T is F, any number of * F or / F")
    void aProductIsAnyNumberOfFactors() {
        due(paid("100/5*2"), 40);
        due(paid("100*5/2"), 250);
        due(paid("100/5/2"), 10);
        due(paid("7/2*2"), 6);
        due(faultOf("pay *1;"), 4);
        due(faultOf("pay 1*;"), 6);
        due(faultOf("pay 1**1;"), 6);
        StringBuilder b = new StringBuilder("3");
        for (int i = 0; i < 197; i++) {
            b.append(i % 2 == 0 ? "*2" : "/2");
        }
        due(paid(b.toString()), 6);
    }

    @Says("F is a number (0 .. 99999), a NAME or ( E ).")
    void aFactorIsANumberANameOrASumInBrackets() {
        due(paid("0"), 0);
        due(paid("99999"), 99999);
        due(paid("(99999)"), 99999);
        due(paid("2*(3+4)"), 14);
        due(paid("000000000000000000000000000007"), 7);
        due(paid("size"), 1);
        due(faultOf("pay 100000;"), 4);
        due(faultOf("pay 0000100000;"), 4);
        // 5 by wraps around of 32 and of 64 bits.
        due(faultOf("pay 4294967301;"), 4);
        due(faultOf("pay 18446744073709551621;"), 4);
        due(faultOf("pay sink;"), 4);
        due(faultOf("pay or;"), 4);
        due(faultOf("pay ();"), 5);
        due(faultOf("pay (1;"), 6);
        due(faultOf("pay 1);"), 5);
        due(faultOf("pay [1];"), 4);
        due(faultOf("pay (1];"), 6);
    }

    @Says("C is A, any number of or A")
    void aConditionIsAnyNumberOfParts() {
        due(holds("1=2 or 1=2"), false);
        due(holds("1=1 or 1=2"), true);
        due(holds("1=2 or 1=1"), true);
        due(holds("1=1 or 1=1"), true);
        due(holds("1=1 or 1=2 and 1=2"), true);
        StringBuilder b = new StringBuilder("1=2");
        for (int i = 0; i < 54; i++) {
            b.append(" or 1=2");
        }
        due(holds(b.toString()), false);
        due(holds(b + " or 1=1"), true);
        due(faultOf("sink or 1=1;"), 5);
        due(faultOf("sink 1=1 or;"), 11);
    }

    @Says("A is B, any number of and B")
    void aPartOfAConditionIsAnyNumberOfTruths() {
        due(holds("1=1 and 1=1"), true);
        due(holds("1=1 and 1=2"), false);
        due(holds("1=2 and 1=1"), false);
        due(holds("1=2 and 1=2"), false);
        StringBuilder b = new StringBuilder("1=1");
        for (int i = 0; i < 47; i++) {
            b.append(" and 1=1");
        }
        due(holds(b.toString()), true);
        due(holds(b + " and 1=2"), false);
        due(faultOf("sink and 1=1;"), 5);
        due(faultOf("sink 1=1 and;"), 12);
    }

    @Says("B is not B, [ C ], E < E, E > E or E = E.")
    void aTruthIsDeniedOrInBracketsOrAComparison() {
        due(holds("1<2"), true);
        due(holds("2<2"), false);
        due(holds("3<2"), false);
        due(holds("2>1"), true);
        due(holds("2>2"), false);
        due(holds("2>3"), false);
        due(holds("2=2"), true);
        due(holds("2=3"), false);
        due(holds("3=2"), false);
        due(holds("1+1>3-2"), true);
        due(holds("not 1=2"), true);
        due(holds("not 1=1"), false);
        due(holds("not not 1=1"), true);
        due(holds("not 1=2 and 1=2"), false);
        due(holds("not [1=2 and 1=2]"), true);
        for (String one : new String[] {"1<2", "2>1", "2=2"}) {
            due(holds("not " + one), false);
            due(holds("not not " + one), true);
            for (String other : new String[] {"1<2", "2>1", "2=2"}) {
                due(holds(one + " and " + other), true);
                due(holds(one + " or " + other), true);
                due(holds("not [" + one + " or " + other + "]"), false);
                due(holds(one + " and not " + other), false);
            }
        }
        due(holds("[1=1 or 1=1] and 1=2"), false);
        due(faultOf("sink 1<2<3;"), 8);
        due(faultOf("sink 1<>2;"), 7);
        due(faultOf("sink [1];"), 7);
        due(faultOf("sink [1=1;"), 9);
        due(faultOf("sink 1=1];"), 8);
        due(faultOf("sink [];"), 6);
        due(faultOf("sink (1=1);"), 7);
        due(faultOf("sink not;"), 8);
    }

    @Says("NAMES: height period way power hold size day spell ready.")
    void theNamesAreNine() {
        for (String name : "height period way power hold size day spell ready".split(" ")) {
            due(faultOf("pay " + name + ";sink " + name + "<1;"), NONE);
            due(faultOf(name + " 1;"), 0);
        }
        for (String word : "sink rise boat pay or and not base none".split(" ")) {
            due(faultOf("pay " + word + ";"), 4);
        }
    }

    @Says({"( [ and not open what is one deeper", "8 at most."})
    void bracketsOpenAtMostEightDeep() {
        due(faultOf("pay ((((((((1))))))));"), NONE);
        due(faultOf("pay (((((((((1)))))))));"), 12);
    }

    @Says("( [ and not open what is one deeper")
    void squareBracketsOpenAtMostEightDeep() {
        due(faultOf("sink [[[[[[[[1=1]]]]]]]];"), NONE);
        due(faultOf("sink [[[[[[[[[1=1]]]]]]]]];"), 13);
    }

    @Says("( [ and not open what is one deeper")
    void notsOpenAtMostEightDeep() {
        due(faultOf("sink not not not not not not not not 1=1;"), NONE);
        due(faultOf("sink not not not not not not not not not 1=1;"), 37);
    }

    @Says("( [ and not open what is one deeper")
    void allThatOpensIsCountedTogether() {
        due(faultOf("sink not[not[not[((1))=1]]];"), NONE);
        due(faultOf("sink not[not[not[(((1)))=1]]];"), 19);
        due(faultOf("sink not[not[not[not[[1=1]]]]];"), 21);
        due(faultOf("sink not[not[not[not[not 1=1]]]];"), 21);
        due(faultOf("sink [[[[[[[[1=(1)]]]]]]]];"), 15);
    }

    @Says("( [ and not open what is one deeper")
    void whatIsClosedIsCountedNoMore() {
        due(faultOf("pay ((((((((1))))))))+((((((((1))))))));"), NONE);
        due(faultOf("sink [[[[[[[[1=1]]]]]]]] or [[[[[[[[1=1]]]]]]]];"), NONE);
        due(faultOf("sink not 1=1 and not 1=1 and not 1=1 and not 1=1 and not 1=1 and not 1=1 and not 1=1 "
            + "and not 1=1 and not 1=1;"), NONE);
        due(faultOf("sink not not not not not not not not (1)=1;"), 37);
        due(faultOf("sink not not not not not not not not 1=1 or (1)=1;"), NONE);
        due(faultOf("sink 1=1;rise [[[[[[[[1=1]]]]]]]];pay ((((((((1))))))));"), NONE);
    }

    @Says("Results of + - * are brought into -1000000 .. 1000000")
    void resultsOfPlusAreBroughtInto() {
        due(paid("99999*10+10-99999*10"), 10);
        due(paid("99999*10+11-99999*10"), 10);
        due(paid("0-99999*10+(0-10)+99999*10"), -10);
        due(paid("0-99999*10+(0-11)+99999*10"), -10);
    }

    @Says("Results of + - * are brought into -1000000 .. 1000000")
    void resultsOfMinusAreBroughtInto() {
        due(paid("0-99999*10-10+99999*10"), -10);
        due(paid("0-99999*10-11+99999*10"), -10);
        due(paid("99999*10-(0-10)-99999*10"), 10);
        due(paid("99999*10-(0-11)-99999*10"), 10);
    }

    /** 65536 * 65536 is 0 by a wrap around of 32 bits, 50000 * 50000 is below 0. */
    @Says("Results of + - * are brought into -1000000 .. 1000000")
    void resultsOfTimesAreBroughtInto() {
        due(paid("1000*1000-99999*10"), 10);
        due(paid("1001*1000-99999*10"), 10);
        due(paid("99999*99999-99999*10"), 10);
        due(paid("65536*65536-99999*10"), 10);
        due(paid("50000*50000-99999*10"), 10);
        due(paid("(0-65536)*65536+99999*10"), -10);
        due(paid("(0-1000)*1000+99999*10"), -10);
        due(paid("(0-50000)*(0-50000)-99999*10"), 10);
        due(paid("1000*1000*(1000*1000)-99999*10"), 10);
    }

    @Says("/ is cut toward 0")
    void quotientsAreCutTowardNothing() {
        due(paid("7/2"), 3);
        due(paid("(0-7)/2"), -3);
        due(paid("7/(0-2)"), -3);
        due(paid("(0-7)/(0-2)"), 3);
        due(paid("1/2"), 0);
        due(paid("(0-1)/2"), 0);
        due(paid("1000*1000/10"), 100000);
    }

    @Says("by 0 it is 0.")
    void aQuotientBy0Is0() {
        due(paid("5/0"), 0);
        due(paid("0/0"), 0);
        due(paid("(0-5)/(3-3)"), 0);
        due(paid("7+5/height"), 7);
    }

    @Says("The FAULT is the place (from 0 on) of the first byte of the first TOKEN that can't stand there")
    void aFaultIsThePlaceOfTheFirstTokenThatCantStandThere() {
        due(faultOf("height;"), 0);
        due(faultOf("pay   sink 5;"), 6);
        due(faultOf("pay 1 period;"), 6);
        due(faultOf("pay 1 12345;"), 6);
        due(faultOf("pay 5; rise 1 < 2; 7"), 19);
        due(faultOf("pay 1 ; = = ="), 8);
    }

    @Says("(also: a number too great")
    void aNumberTooGreatIsAFault() {
        due(faultOf("pay 1 + 100000;"), 8);
        due(faultOf("pay 1 + 99999;"), NONE);
        due(faultOf("sink 999999 < 1;"), 5);
    }

    @Says("a CLAUSE that was there")
    void aClauseThatWasThereIsAFault() {
        due(faultOf("pay 1; rise 1=1; pay $"), 17);
        due(faultOf("sink 1=1;sink 1=1;"), 9);
    }

    @Says("what opens too deep)")
    void whatOpensTooDeepIsAFault() {
        due(faultOf("pay (((((((((  $"), 12);
        due(faultOf("sink [[[[[[[[not 1=1]]]]]]]];"), 13);
    }

    @Says("if that is ahead")
    void aByteThatBeginsNoTokenIsAFaultWhereItIsAhead() {
        due(faultOf("pay 5 $ 6;"), 6);
        due(faultOf("pay 5 6 $;"), 6);
        due(faultOf("pay $ 5 6;"), 4);
        due(faultOf("$"), 0);
        due(faultOf("pay 5; $"), 7);
        due(faultOf("pay 5#"), 5);
    }

    @Says("the length, if the TEXT ends too early")
    void theLengthIsTheFaultOfATextThatEndsTooEarly() {
        due(faultOf("pay"), 3);
        due(faultOf("pay 5"), 5);
        due(faultOf("pay 5   "), 8);
        due(faultOf("pay ("), 5);
        due(faultOf("pay (1)"), 7);
        due(faultOf("sink not [1=1"), 13);
        due(faultOf("sink 1 <"), 8);
        due(faultOf("pay 1; rise"), 11);
        StringBuilder b = new StringBuilder("pay 10");
        while (b.length() < 400) {
            b.append("+1");
        }
        due(faultOf(b.toString()), 400);
    }

    @Says("NONE without.")
    void aTextMayHaveNoFault() {
        due(faultOf("pay 5; sink 1=1;"), NONE);
    }

    @Says("A TEXT without a FAULT becomes a SHEET (10 at most)")
    void sheetsAre10AtMost() {
        for (int i = 0; i < 10; i++) {
            due(sheetOf("pay " + i + ";"), i);
        }
        due(sheetOf("pay 10;"), NONE);
        due(x.count(4), 10);
        due(sheetOf("pay"), NONE);
    }

    @Says("put IN FORCE from a SPELL on (15 times at most")
    void sheetsArePutInForce15TimesAtMost() {
        sheetOf("pay 1;");
        sheetOf("pay 2;");
        for (int i = 1; i <= 15; i++) {
            due(x.force(0, 5), i);
        }
        due(x.force(1, 5), NONE);
        due(x.force(1, 6), NONE);
        due(x.why(3, 6), 0);
    }

    @Says("NOW or later)")
    void sheetsArePutInForceFromNowOrLater() {
        sheetOf("pay 1;");
        x.go(7);
        due(x.force(0, 6), NONE);
        due(x.force(0, 7), 1);
        due(x.force(0, 479), 2);
        due(x.force(0, 480), NONE);
        due(x.why(3, 6), NONE);
        due(x.why(3, 7), 0);
    }

    @Says("for each CLAUSE that of the SHEET that has it which is IN FORCE since the latest SPELL up to the one asked for")
    void theLatestSheetThatHasAClauseIsInForce() {
        sheetOf("pay 1; sink 1=1;");
        sheetOf("pay 2;");
        x.force(1, 8);
        x.force(0, 5);
        due(x.why(3, 4), NONE);
        due(x.why(3, 5), 0);
        due(x.why(3, 7), 0);
        due(x.why(3, 8), 1);
        due(x.why(3, 479), 1);
        due(x.why(0, 4), NONE);
        due(x.why(0, 8), 0);
        due(x.why(1, 8), NONE);
    }

    /** CLAUSES of each SHEET begin elsewhere in its TEXT. */
    @Says("for each CLAUSE that of the SHEET that has it")
    void eachSheetKeepsItsClausesThoughOthersCome() {
        sheetOf("pay 3;");
        sheetOf("sink 1=2; rise 1=2 or 2=3; boat 1+1+1=4; pay 7+4*2;");
        sheetOf("boat 1=1; pay 2*(3+4); sink 1=1;");
        laid(5, 8, 0, 50);
        x.force(0, 0);
        x.force(1, 1);
        x.force(2, 2);
        x.go(3);
        due(x.booked(0, 1), 3);
        due(x.booked(1, 1), 15);
        due(x.booked(2, 1), 14);
        due(x.right(0, 3, 1), 3);
        due(x.told(0, 0), 2);
        due(x.window(2, 0, 1), 2);
        x.force(1, 4);
        due(x.window(2, 0, 1), 1);
    }

    @Says("of like ones the one put later.")
    void ofLikeSheetsTheOnePutLaterIsInForce() {
        sheetOf("pay 1;");
        sheetOf("pay 2;");
        sheetOf("sink 1=1;");
        x.force(0, 8);
        due(x.why(3, 8), 0);
        x.force(1, 8);
        due(x.why(3, 8), 1);
        x.force(0, 8);
        due(x.why(3, 8), 0);
        x.force(2, 8);
        due(x.why(3, 8), 0);
    }

    @Says("Without any: sink and rise never")
    void withoutASheetNoneIsSunkAndNoneRises() {
        laid(20, 8, 0, 5000);
        sea(0, 9, what(120, 8, 0));
        x.go(5);
        due(x.told(0, 0), 1);
        inForce("sink 1=1;", 5);
        x.go(1);
        due(x.told(0, 0), 2);
        x.go(5);
        due(x.told(0, 0), 2);
    }

    @Says("boat always")
    void withoutASheetBoatsGoAlways() {
        sea(0, 50, what(120, 8, 0));
        due(x.window(40, 0, 0), 0);
        due(x.window(40, 0, 1), 40);
        inForce("pay 1; sink 1=1; rise 1=1;", 0);
        due(x.window(40, 0, 1), 40);
        inForce("boat 1=2;", 10);
        due(x.window(40, 0, 1), 10);
    }

    @Says("pay 0.")
    void withoutASheetPayIs0() {
        laid(20, 8, 0, 5000);
        sea(0, 9, SEA10);
        inForce("sink 1=2; rise 1=2; boat 1=1;", 0);
        inForce("pay 7;", 1);
        x.go(2);
        due(x.booked(0, 1), 0);
        due(x.booked(1, 1), 7);
    }

    @Says("NAMES: HEIGHT, PERIOD, WAY and 1 of the SPELL")
    void theSeaHasNames() {
        x.raft(1, 8);
        inForce("pay height * 1000 + period * 10 + way;", 0);
        x.reading(0, what(7, 9, -1));
        x.reading(1, what(99, 20, 0));
        x.reading(2, what(0, 2, 1));
        x.go(12);
        due(x.booked(0, 1), 7090);
        due(x.booked(1, 1), 99201);
        due(x.booked(2, 1), 22);
        due(x.booked(10, 1), 22);
        due(x.booked(11, 1), 81);
    }

    @Says("power: POWER of the raft in the SPELL ahead")
    void powerIsThatOfTheSpellAhead() {
        laid(20, 8, 0, 5000);
        sea(0, 9, SEA10);
        inForce("sink power = 400; rise power = 0;", 0);
        x.go(1);
        due(x.told(0, 0), 1);
        x.go(1);
        due(x.told(0, 0), 2);
        x.go(1);
        due(x.told(0, 0), 1);
        due(x.told(0, 5), 400);
    }

    /** LOAD 500: 100, 300, 100; the middle chain breaks in the second SPELL, when its HOLD is 298. */
    @Says("hold: the least HOLD of its chains that hold")
    void holdIsTheLeastOfTheChainsThatHold() {
        laid(15, 8, 0, 300);
        x.raft(15, 8);
        sea(0, 9, what(25, 8, 0));
        inForce("pay hold;", 0);
        x.go(3);
        due(x.booked(0, 1), 298);
        due(x.told(0, 6), 5);
        due(x.booked(1, 1), 300);
        due(x.booked(2, 1), 299);
        x.reading(3, what(120, 8, 0));
        x.go(1);
        due(x.told(0, 0), 3);
        due(x.booked(3, 1), 0);
    }

    @Says("hold: the least HOLD of its chains that hold")
    void holdIsOfTheRaftsOwnChains() {
        laid(5, 8, 0, 70);
        laid(5, 8, 10, 50);
        laid(5, 8, 20, 90);
        inForce("pay hold * size;", 0);
        inForce("sink hold = 50;", 0);
        x.go(1);
        due(x.booked(0, 1), 5 * (70 + 50 + 90));
        due(x.told(0, 0), 1);
        due(x.told(1, 0), 2);
        due(x.told(2, 0), 1);
    }

    @Says({"its SIZE", "DAY and SPELL of it (0 .. 7)"})
    void sizeDayAndSpellHaveNames() {
        x.raft(13, 8);
        inForce("pay size * 1000 + day * 10 + spell;", 0);
        x.go(17);
        due(x.booked(7, 1), 13007);
        due(x.booked(8, 1), 13010);
        due(x.booked(15, 1), 13017);
        due(x.booked(16, 1), 13020);
    }

    @Says("ready: 1, if it is afloat or SUNK.")
    void readyIsAfloatOrSunk() {
        x.raft(15, 8);
        inForce("pay ready * 10 + 1; sink spell = 2; rise spell = 3;", 0);
        x.go(1);
        x.lay(0, 0, 10);
        x.go(3);
        x.reading(4, what(120, 8, 0));
        x.go(1);
        due(x.told(0, 0), 3);
        due(x.booked(0, 1), 1);
        due(x.booked(1, 1), 11);
        due(x.booked(2, 1), 11);
        due(x.booked(3, 1), 11);
        due(x.booked(4, 1), 1);
    }

    @Says("For boat all of the raft are 0.")
    void forBoatAllOfTheRaftAre0() {
        laid(20, 8, 0, 5000);
        inForce("pay power + hold + size + ready;", 0);
        sea(0, 9, SEA10);
        x.go(1);
        due(x.booked(0, 1), 400 + 5000 + 20 + 1);
        due(x.window(3, 0, 1), 3);
        inForce("boat power = 0 and hold = 0 and size = 0 and ready = 0 and height = 10 and spell = 1;", 1);
        due(x.window(3, 0, 0), 1);
        due(x.window(3, 0, 1), 1);
    }

    // ==== 3: THE SEA

    @Says("THE SEA has COLUMNS 0 .. 9 and ROWS 0 .. 4")
    void theSeaHasTenColumnsAndFiveRows() {
        for (int i = 0; i < 4; i++) {
            x.raft(5, 8);
        }
        for (int place : new int[] {-1, 5, 9, 15, 95, 99, 100, 104, MIN, MAX}) {
            due(x.lay(0, place, 50), NONE);
        }
        int[] corners = {0, 4, 90, 94};
        for (int i = 0; i < 4; i++) {
            due(x.lay(i, corners[i], 50), i + 1);
            due(x.told(i, 1), corners[i]);
        }
    }

    @Says({"behind the last ROW lies the beach.", "What is left behind the last ROW PASSES."})
    void whatIsLeftBehindTheLastRowPassesInItsColumn() {
        laid(20, 8, 44, 5000);
        x.reading(0, what(10, 8, 1));
        x.reading(1, what(10, 8, -1));
        x.go(2);
        dueAll(passes(0), 800, 800, 800, 800, 400, 800, 800, 800, 800, 800);
        dueAll(passes(1), 800, 800, 800, 800, 400, 800, 800, 800, 800, 800);
    }

    @Says("RAFTS have numbers as they come, at most 10")
    void raftsAre10AtMost() {
        for (int i = 0; i < 10; i++) {
            due(x.raft(i + 1, 8), i);
        }
        due(x.raft(1, 8), NONE);
        due(x.count(1), 10);
        due(x.told(9, 2), 10);
    }

    @Says("a SIZE (1 .. 20)")
    void aSizeIs1To20() {
        due(x.raft(0, 8), NONE);
        due(x.raft(21, 8), NONE);
        due(x.raft(1, 8), 0);
        due(x.raft(20, 8), 1);
        due(x.told(0, 2), 1);
        due(x.told(1, 2), 20);
    }

    @Says("a SUIT (2 .. 20)")
    void aSuitIs2To20() {
        due(x.raft(5, 1), NONE);
        due(x.raft(5, 21), NONE);
        due(x.raft(5, 2), 0);
        due(x.raft(5, 20), 1);
        due(x.told(0, 3), 2);
        due(x.told(1, 3), 20);
    }

    @Says("ON SHORE (0) at first, AFLOAT (1), SUNK (2), LOOSE (3).")
    void aRaftIsOnShoreAtFirst() {
        x.raft(15, 8);
        due(x.told(0, 0), 0);
        x.lay(0, 0, 10);
        due(x.told(0, 0), 1);
        inForce("sink spell = 0; rise spell = 1;", 0);
        x.go(1);
        due(x.told(0, 0), 2);
        x.reading(1, what(120, 8, 0));
        x.go(1);
        due(x.told(0, 0), 3);
    }

    @Says("At most one that isn't ON SHORE lies at a place (COLUMN, ROW)")
    void atMostOneRaftLiesAtAPlace() {
        laid(5, 8, 42, 50);
        x.raft(5, 8);
        due(x.lay(1, 42, 50), NONE);
        inForce("sink 1=1;", 0);
        x.go(1);
        due(x.told(0, 0), 2);
        due(x.lay(1, 42, 50), NONE);
        due(x.lay(1, 24, 50), 2);
        trip(0, 0, 4, 0);
        x.raft(5, 8);
        due(x.lay(2, 42, 50), 4);
    }

    @Says("a LOOSE one lies nowhere.")
    void aLooseRaftLiesNowhere() {
        laid(15, 8, 42, 10);
        x.raft(5, 8);
        x.reading(0, what(120, 8, 0));
        x.go(1);
        due(x.told(0, 0), 3);
        due(x.told(0, 1), NONE);
        due(x.lay(1, 42, 50), 2);
    }

    @Says("CHAINS 0, 1, 2 (left, ahead, right) have a STRENGTH (10 .. 5000) and WEAR")
    void aStrengthIs10To5000() {
        x.raft(5, 8);
        x.raft(5, 8);
        due(x.lay(0, 0, 9), NONE);
        due(x.lay(0, 0, 5001), NONE);
        due(x.told(0, 0), 0);
        due(x.lay(0, 0, 10), 1);
        due(x.lay(1, 1, 5000), 2);
        dueAll(tolds(0, 10, 3), 10, 10, 10);
        dueAll(tolds(1, 10, 3), 5000, 5000, 5000);
        dueAll(tolds(0, 20, 3), 0, 0, 0);
        equip(0, 0);
        due(x.send(0, 0, 0, 1, 9), NONE);
        due(x.send(0, 0, 0, 1, 5001), NONE);
        due(x.send(0, 0, 0, 1, 5000), 0);
    }

    /** With WAY 1 the left chain has half of the LOAD: of 19 * 21 it is 199, of 10 * 40 it is 200. */
    @Says("HOLD is STRENGTH less WEAR by 100 (cut).")
    void holdIsStrengthLessWearBy100() {
        laid(14, 8, 0, 300);
        inForce("pay hold;", 0);
        x.reading(0, what(21, 8, 1));
        x.go(1);
        due(x.told(0, 20), 99);
        due(x.booked(0, 1), 300);
        x = new NoddingRafts();
        laid(5, 8, 0, 300);
        inForce("pay hold;", 0);
        x.reading(0, what(40, 8, 1));
        x.go(1);
        due(x.told(0, 20), 100);
        due(x.booked(0, 1), 299);
    }

    @Says("LANES (10 at most)")
    void lanesAre10AtMost() {
        x.raft(5, 8);
        for (int i = 1; i <= 10; i++) {
            due(x.lane(i % 9, 5, 5), i);
        }
        due(x.lane(9, 0, 0), NONE);
        due(x.count(6), 10);
        due(x.lay(0, 90, 50), 1);
    }

    @Says("a COLUMN is shut from a DAY to a DAY: no raft is laid there.")
    void aColumnIsShutFromADayToADay() {
        for (int i = 0; i < 5; i++) {
            x.raft(5, 8);
        }
        x.lane(3, 2, 3);
        goTo(15);
        due(x.lay(0, 30, 50), 1);
        x.go(1);
        due(x.lay(1, 31, 50), NONE);
        due(x.lay(1, 21, 50), 2);
        due(x.lay(2, 41, 50), 3);
        goTo(31);
        due(x.lay(3, 31, 50), NONE);
        due(x.told(0, 0), 1);
        x.go(1);
        due(x.lay(3, 31, 50), 4);
    }

    /** Seven rafts are laid and towed home by turns, by one BOAT. */
    /** Each COLUMN's places are shut by its own LANE alone. */
    @Says("a COLUMN is shut from a DAY to a DAY: no raft is laid there.")
    void eachPlaceIsShutByTheLaneOfItsColumn() {
        for (int column = 0; column < 10; column++) {
            for (int row = 0; row < 5; row++) {
                x = new NoddingRafts();
                x.raft(5, 8);
                x.raft(5, 8);
                x.lane(column, 0, 0);
                due(x.lay(0, column * 10 + row, 50), NONE);
                x.place(column * 10 + row);
                due(x.laying(0, 1, 0, 0, NONE), NONE);
                x = new NoddingRafts();
                x.raft(5, 8);
                for (int other = 0; other < 10; other++) {
                    if (other != column) {
                        x.lane(other, 0, 0);
                    }
                }
                x.place(column * 10 + row);
                due(x.laying(0, 1, 0, 0, 0), column * 10 + row);
                due(x.lay(0, column * 10 + row, 50), 1);
            }
        }
    }

    @Says("THINGS (200 at most")
    void thingsAre200AtMost() {
        twoHundredThings();
        due(x.count(5), 200);
        due(x.lay(1, 10, 50), NONE);
        due(x.count(5), 200);
        due(x.told(1, 0), 0);
    }

    /** THINGS 1 .. 200: raft 0 is laid and towed home, a hundred times; raft 1 stays ON SHORE. */
    private void twoHundredThings() {
        x.raft(5, 8);
        x.raft(5, 8);
        equip(0, 2);
        for (int i = 0; i < 100; i++) {
            x.lay(0, 0, 50);
            x.send(0, 0, 4, 1, 0);
            x.go(1);
        }
    }

    @Says("each kept with its SPELL, NOW as it is told")
    void aThingIsKeptWithItsSpell() {
        x.raft(20, 8);
        sea(0, 9, SEA10);
        x.go(3);
        x.lay(0, 0, 5000);
        x.go(2);
        due(x.right(2, 5, 0), 0);
        due(x.right(3, 5, 0), 400);
    }

    @Says("what is told NOW is so at once)")
    void whatIsToldNowIsSoAtOnce() {
        x.raft(5, 8);
        x.raft(5, 8);
        x.lay(0, 0, 70);
        due(x.told(0, 0), 1);
        due(x.told(0, 1), 0);
        due(x.told(0, 6), 7);
        due(x.told(0, 10), 70);
        due(x.lay(1, 0, 70), NONE);
        due(x.count(0), 0);
    }

    /** LOAD 200 breaks the middle chain of 110 and wears none; LEAK is 1 behind 16 SPELLS. */
    @Says("a raft is LAID at a place (it was ON SHORE; new chains of a STRENGTH, WEAR 0; LEAK as it was)")
    void aRaftLaidHasNewChainsAndItsOldLeak() {
        laid(15, 8, 0, 110);
        sea(0, 30, SEA10);
        x.go(1);
        due(x.told(0, 31), 0);
        x.go(15);
        due(x.told(0, 4), 1);
        x.reading(16, what(15, 8, 1));
        x.go(1);
        due(x.told(0, 30), 16);
        trip(0, 0, 4, 0);
        due(x.told(0, 0), 0);
        due(x.told(0, 4), 1);
        x.lay(0, 23, 200);
        due(x.told(0, 4), 1);
        due(x.told(0, 1), 23);
        dueAll(tolds(0, 10, 3), 200, 200, 200);
        dueAll(tolds(0, 20, 3), 0, 0, 0);
        dueAll(tolds(0, 30, 3), NONE, NONE, NONE);
        due(x.lay(0, 24, 200), NONE);
    }

    /** The middle chain of 300 has 300 and wears by 200, the others have 100. */
    @Says("a chain made new (of a STRENGTH)")
    void aChainMadeNewLeavesTheOthers() {
        laid(15, 8, 0, 300);
        sea(0, 9, what(25, 8, 0));
        x.go(1);
        x.go(1);
        due(x.told(0, 31), 1);
        x.reading(2, FLAT);
        trip(0, 0, 1, 77);
        dueAll(tolds(0, 10, 3), 300, 77, 300);
        dueAll(tolds(0, 20, 3), 0, 0, 0);
        dueAll(tolds(0, 30, 3), NONE, NONE, NONE);
        due(x.told(0, 6), 7);
        x.reading(3, what(22, 8, -1));
        x.go(1);
        dueAll(tolds(0, 20, 3), 0, 0, 120);
        due(x.told(0, 31), 3);
        trip(0, 0, 0, 88);
        dueAll(tolds(0, 10, 3), 88, 77, 300);
        due(x.told(0, 31), 3);
    }

    @Says("new SEALS")
    void newSealsBeginTheLeakAgain() {
        laid(20, 8, 0, 5000);
        sea(0, 60, SEA10);
        x.go(31);
        due(x.told(0, 4), 1);
        trip(0, 0, 3, 0);
        due(x.told(0, 4), 0);
        x.go(15);
        due(x.told(0, 4), 0);
        x.go(1);
        due(x.told(0, 4), 1);
    }

    @Says("TOWED home (ON SHORE; from wherever it is).")
    void aRaftIsTowedHomeFromWhereverItIs() {
        laid(5, 8, 0, 5000);
        laid(5, 8, 1, 5000);
        laid(15, 8, 2, 10);
        inForce("sink size = 5 and spell = 1;", 0);
        trip(0, 0, 4, 0);
        x.reading(1, what(120, 8, 0));
        x.go(1);
        due(x.told(1, 0), 2);
        due(x.told(2, 0), 3);
        trip(0, 1, 4, 0);
        trip(0, 2, 4, 0);
        for (int raft = 0; raft < 3; raft++) {
            due(x.told(raft, 0), 0);
            due(x.told(raft, 1), NONE);
            due(x.told(raft, 6), 0);
        }
        due(x.boat(0, 4), 3);
    }

    @Says("A SPELL goes so, by what is KNOWN: (1) THINGS of it.")
    void thingsOfASpellAreDoneAheadOfItsWaves() {
        x.raft(20, 8);
        sea(0, 9, SEA10);
        x.lay(0, 0, 5000);
        x.go(1);
        due(x.booked(0, 0), 400);
        due(x.right(0, 1, 0), 400);
        trip(0, 0, 4, 0);
        due(x.booked(1, 0), 400);
        x.go(1);
        due(x.booked(2, 0), 0);
        due(x.right(1, 3, 0), 400);
        due(x.right(2, 3, 0), 0);
    }

    @Says("(2) rafts by numbers: one AFLOAT is SUNK, if sink holds; else one that was SUNK is AFLOAT, if rise holds.")
    void aRaftIsSunkOrRisesOnceASpell() {
        laid(10, 8, 0, 5000);
        laid(11, 8, 1, 5000);
        inForce("sink size = 10; rise 1=1;", 0);
        for (int spell = 0; spell < 6; spell++) {
            x.go(1);
            due(x.told(0, 0), spell % 2 == 0 ? 2 : 1);
            due(x.told(1, 0), 1);
        }
        // It lies where it lay, with its chains.
        due(x.told(0, 1), 0);
        due(x.told(0, 6), 7);
    }

    @Says("(3) WAVES: at ROW 0 each COLUMN has HEIGHT * HEIGHT * PERIOD.")
    void atRow0EachColumnHasHeightByHeightByPeriod() {
        x.reading(0, what(120, 20, 1));
        x.reading(1, what(1, 2, 0));
        x.reading(2, what(0, 20, -1));
        x.go(3);
        for (int column = 10; column < 20; column++) {
            due(x.booked(0, column), 288000);
            due(x.booked(1, column), 2);
            due(x.booked(2, column), 0);
        }
    }

    /** 11 by 70 of 100 is 7.7: cut to 7 ahead of the SIZE, it comes to 0 by 3 of 23; 800 by 10 of 30 is 266.7. */
    @Says("times FIT by 100 (cut), then times SIZE by SIZE and 20 (cut)")
    void whatIsTakenIsCutTwice() {
        laid(3, 9, 0, 5000);
        laid(10, 8, 10, 5000);
        x.reading(0, what(1, 11, 0));
        x.reading(1, what(10, 8, 0));
        x.go(1);
        due(x.told(0, 5), 0);
        due(x.booked(0, 10), 11);
        x.go(1);
        due(x.told(1, 5), 266);
        due(x.booked(1, 11), 534);
    }

    @Says("At each ROW a raft AFLOAT TAKES of what is there")
    void aRaftThatIsNotAfloatTakesNothing() {
        laid(20, 8, 0, 5000);
        laid(20, 8, 1, 5000);
        laid(20, 8, 12, 10);
        x.raft(20, 8);
        inForce("sink hold = 5000 and spell = 1 and power = 400;", 0);
        sea(0, 9, SEA10);
        x.reading(0, SEA10);
        x.go(1);
        due(x.told(0, 5), 400);
        due(x.told(1, 5), 200);
        due(x.told(2, 5), 400);
        due(x.told(2, 0), 3);
        due(x.booked(0, 10), 200);
        x.go(1);
        due(x.told(0, 0), 2);
        due(x.told(0, 5), 0);
        due(x.told(1, 5), 400);
        due(x.told(2, 5), 0);
        due(x.told(3, 5), 0);
        due(x.booked(1, 10), 400);
        due(x.booked(1, 11), 800);
    }

    /** With SIZE 20 half of what suits it is taken. */
    @Says("FIT is 100 less 15 for each by which PERIOD and SUIT differ, 0 at least")
    void aFitIs0AtLeast() {
        for (int by = 0; by <= 8; by++) {
            int fit = by == 6 ? 10 : by > 6 ? 0 : 100 - 15 * by;
            for (int period : new int[] {10 - by, 10 + by}) {
                x = new NoddingRafts();
                laid(20, 10, 0, 5000);
                x.reading(0, what(10, period, 0));
                x.go(1);
                due(x.booked(0, 0), period * fit / 2);
                due(x.booked(0, 10), period * 100 - period * fit / 2);
            }
        }
    }

    @Says("the rest goes on: to the next ROW, WAY COLUMNS aside (-1 left, 1 right)")
    void theRestGoesAsideWithEachRow() {
        laid(20, 8, 40, 5000);
        x.reading(0, what(10, 8, 0));
        x.reading(1, what(10, 8, 1));
        x.reading(2, what(10, 8, -1));
        x.go(3);
        dueAll(passes(0), 800, 800, 800, 800, 400, 800, 800, 800, 800, 800);
        dueAll(passes(1), 800, 800, 800, 800, 800, 800, 800, 800, 400, 800);
        dueAll(passes(2), 400, 800, 800, 800, 800, 800, 800, 800, 800, 800);
    }

    /** Nothing wraps around from one side to the other. */
    @Says("a COLUMN to which none comes has what ROW 0 has.")
    void aColumnToWhichNoneComesHasWhatRow0Has() {
        laid(20, 8, 90, 5000);
        laid(20, 8, 0, 5000);
        laid(20, 8, 3, 5000);
        x.reading(0, what(10, 8, 1));
        x.reading(1, what(10, 8, -1));
        x.go(2);
        // To the right: what raft 1 left passes in column 4; raft 2 has the open sea, its rest passes in column 1.
        dueAll(passes(0), 800, 400, 800, 800, 400, 800, 800, 800, 800, 800);
        dueAll(passes(1), 800, 800, 800, 800, 800, 400, 800, 800, 800, 800);
        due(x.told(2, 5), 400);
    }

    /** Of 266 with LEAK 1 it is 263.3. */
    @Says("POWER is what is TAKEN times 100 less LEAK by 100 (cut)")
    void powerIsWhatIsTakenLessTheLeak() {
        laid(10, 8, 0, 5000);
        sea(0, 20, SEA10);
        x.go(16);
        due(x.told(0, 5), 266);
        due(x.told(0, 4), 1);
        x.go(1);
        due(x.told(0, 5), 263);
        due(x.booked(16, 0), 263);
        due(x.booked(16, 10), 534);
    }

    @Says({"LEAK is the number of SPELLS in which it TOOK something since its SEALS were new (at first: since ever)",
        "by 16 (cut)"})
    void leakIsTheNumberOfSpellsBy16() {
        laid(10, 8, 0, 5000);
        sea(0, 40, SEA10);
        x.go(15);
        due(x.told(0, 4), 0);
        x.go(1);
        due(x.told(0, 4), 1);
        x.go(15);
        due(x.told(0, 4), 1);
        x.go(1);
        due(x.told(0, 4), 2);
    }

    /** A flat sea, a PERIOD that does not suit it, and so little that nothing is left of it when cut. */
    @Says("the number of SPELLS in which it TOOK something")
    void spellsInWhichNothingWasTakenDoNotLeak() {
        laid(1, 8, 0, 5000);
        sea(0, 15, what(10, 8, 0));
        x.go(15);
        x.reading(15, what(0, 8, 0));
        x.reading(16, what(10, 15, 0));
        x.reading(17, what(1, 8, 0));
        x.go(3);
        due(x.told(0, 4), 0);
        inForce("sink spell = 2; rise spell = 3;", 18);
        x.reading(18, what(10, 8, 0));
        x.go(1);
        due(x.told(0, 0), 2);
        due(x.told(0, 4), 0);
        x.go(1);
        due(x.told(0, 0), 1);
        due(x.told(0, 4), 1);
    }

    /** Of 32 it is 1.5, cut to 1. */
    @Says("the number of SPELLS in which it TOOK something")
    void spellsInWhich1WasTakenLeak() {
        laid(1, 8, 0, 5000);
        sea(0, 15, what(2, 8, 0));
        x.go(16);
        due(x.told(0, 7), 16);
        due(x.told(0, 4), 1);
        // 1 with LEAK 1 is 0.99; it is taken all the same.
        x.go(1);
        due(x.told(0, 5), 0);
        due(x.booked(16, 10), 31);
    }

    /** 480 SPELLS lead to 30; no run leads to 100. */
    @Says("100 at most.")
    void leakIs30InTheEnd() {
        laid(10, 8, 0, 5000);
        sea(0, 479, SEA10);
        goTo(480);
        due(x.told(0, 4), 30);
        due(x.told(0, 5), 266 * 71 / 100);
    }

    @Says("(4) CHAINS of rafts AFLOAT")
    void chainsOfARaftThatIsSunkBearNothing() {
        laid(15, 8, 0, 300);
        inForce("sink 1=1;", 0);
        x.reading(0, what(120, 8, 0));
        x.go(1);
        due(x.told(0, 0), 2);
        due(x.told(0, 6), 7);
        dueAll(tolds(0, 20, 3), 0, 0, 0);
    }

    @Says("LOAD is HEIGHT times SIZE and 5.")
    void loadIsHeightTimesSizeAnd5() {
        laid(1, 8, 0, 5000);
        laid(20, 8, 1, 5000);
        x.reading(0, what(100, 8, 0));
        x.go(1);
        dueAll(tolds(0, 20, 3), 20, 260, 20);
        dueAll(tolds(1, 20, 3), 400, 1400, 400);
    }

    @Says("Weights of left, ahead, right are 1 3 1 with WAY 0, 3 2 1 with 1, 1 2 3 with -1")
    void weightsGoByTheWay() {
        int[][] wears = {{100, 300, 500}, {140, 620, 140}, {500, 300, 100}};
        for (int way = -1; way <= 1; way++) {
            x = new NoddingRafts();
            laid(15, 8, 0, 5000);
            x.reading(0, what(60, 8, way));
            x.go(1);
            dueAll(tolds(0, 20, 3), wears[way + 1]);
        }
    }

    /** Of chains of 1000 one is broken by a LOAD of 2400; then the two others bear 1200. */
    @Says("each chain that holds has LOAD times its weight by all weights of those that hold")
    void theChainsThatHoldBearAll() {
        int[] breaking = {1, 0, -1};
        int[][][] wears = {{{0, 480, 720}, {0, 900, 300}, {0, 800, 400}}, {{300, 0, 900}, {600, 0, 600}, {900, 0, 300}},
            {{400, 800, 0}, {300, 900, 0}, {720, 480, 0}}};
        for (int chain = 0; chain < 3; chain++) {
            for (int way = -1; way <= 1; way++) {
                x = new NoddingRafts();
                laid(15, 8, 0, 1000);
                x.reading(0, what(120, 8, breaking[chain]));
                x.reading(1, what(60, 8, way));
                x.go(1);
                due(x.told(0, 6), 7 - (1 << chain));
                int[] before = tolds(0, 20, 3);
                x.go(1);
                due(x.told(0, 6), 7 - (1 << chain));
                for (int i = 0; i < 3; i++) {
                    int borne = wears[chain][way + 1][i];
                    due(x.told(0, 20 + i) - before[i], borne == 0 ? 0 : borne - 100);
                }
            }
        }
    }

    /** WAY 1 breaks the left chain, then WAY -1 the right one; the middle one bears all. */
    @Says("each chain that holds has LOAD times its weight by all weights of those that hold")
    void theLastChainThatHoldsBearsAll() {
        laid(15, 8, 0, 1000);
        x.reading(0, what(120, 8, 1));
        x.reading(1, what(85, 8, -1));
        x.reading(2, what(40, 8, 1));
        x.go(2);
        due(x.told(0, 6), 2);
        int before = x.told(0, 21);
        x.go(1);
        due(x.told(0, 21), before + 700);
        due(x.told(0, 6), 2);
    }

    /** LOAD 17 * 59 is 1003: 200.6, 601.8, 200.6. */
    @Says("(cut)")
    void whatAChainBearsIsCut() {
        laid(12, 8, 0, 5000);
        x.reading(0, what(59, 8, 0));
        x.go(1);
        dueAll(tolds(0, 20, 3), 100, 501, 100);
    }

    /** LOAD 500: the middle chain bears 300. */
    @Says("one with more than its HOLD breaks")
    void aChainBreaksWithMoreThanItsHold() {
        laid(15, 8, 0, 300);
        laid(15, 8, 1, 299);
        x.reading(0, what(25, 8, 0));
        x.go(1);
        due(x.told(0, 6), 7);
        due(x.told(0, 31), NONE);
        due(x.told(1, 6), 5);
        due(x.told(1, 31), 0);
    }

    /** LOAD 500: when the middle chain breaks, the others have 100, and 250 not before the next SPELL. */
    @Says("(all at once, by HOLDS as they were)")
    void chainsBreakAllAtOnce() {
        laid(15, 8, 0, 249);
        sea(0, 9, what(25, 8, 0));
        x.go(1);
        due(x.told(0, 6), 5);
        dueAll(tolds(0, 20, 3), 0, 0, 0);
        x.go(1);
        due(x.told(0, 6), 0);
        dueAll(tolds(0, 30, 3), 1, 0, 1);
        x = new NoddingRafts();
        laid(15, 8, 0, 399);
        x.reading(0, what(60, 8, 1));
        x.go(1);
        // 600 and 400 break at once; the right one has 200.
        due(x.told(0, 6), 4);
        dueAll(tolds(0, 20, 3), 0, 0, 100);
    }

    @Says("its WEAR stands")
    void theWearOfAChainThatBreaksStands() {
        laid(15, 8, 0, 300);
        sea(0, 9, what(25, 8, 0));
        x.go(1);
        due(x.told(0, 21), 200);
        x.go(5);
        due(x.told(0, 31), 1);
        due(x.told(0, 21), 200);
        due(x.told(0, 11), 300);
    }

    /** LOAD 500 is 100 for the left and the right one, LOAD 22 * 23 is 101.2. */
    @Says("the others' WEAR grows by as much as it has above 100.")
    void wearGrowsByWhatIsAbove100() {
        laid(15, 8, 0, 5000);
        laid(17, 8, 1, 5000);
        x.reading(0, what(25, 8, 0));
        x.reading(1, what(23, 8, 0));
        x.go(1);
        dueAll(tolds(0, 20, 3), 0, 200, 0);
        due(x.told(1, 20), 10);
        x.go(1);
        due(x.told(1, 20), 11);
        due(x.told(1, 22), 11);
        dueAll(tolds(0, 20, 3), 0, 376, 0);
    }

    @Says("If none holds, the raft is LOOSE.")
    void aRaftWithoutAChainThatHoldsIsLoose() {
        laid(15, 8, 0, 1000);
        x.reading(0, what(120, 8, 0));
        x.reading(1, what(120, 8, 1));
        x.reading(2, what(120, 8, 0));
        x.go(1);
        due(x.told(0, 6), 5);
        x.go(1);
        due(x.told(0, 6), 4);
        due(x.told(0, 0), 1);
        x.go(1);
        due(x.told(0, 6), 0);
        due(x.told(0, 0), 3);
        dueAll(tolds(0, 30, 3), 1, 0, 2);
    }

    @Says("(5) PAY: for each raft that had come by then, wherever it is, by pay")
    void eachRaftThatHadComeByThenIsPaid() {
        inForce("pay size; sink size = 2;", 0);
        x.go(1);
        due(x.booked(0, 1), 0);
        x.raft(1, 8);
        laid(2, 8, 0, 5000);
        laid(4, 8, 1, 10);
        x.reading(1, what(120, 8, 0));
        x.go(1);
        due(x.told(0, 0), 0);
        due(x.told(1, 0), 2);
        due(x.told(2, 0), 3);
        due(x.booked(1, 1), 7);
        x.raft(8, 8);
        x.go(1);
        due(x.booked(2, 1), 15);
        // Gone through anew, those that came later had not come then either.
        due(x.right(0, 3, 1), 0);
        due(x.right(1, 3, 1), 7);
        due(x.right(2, 3, 1), 15);
    }

    @Says("(brought into -100000 .. 100000)")
    void thePayOfARaftIsBroughtInto() {
        due(paid("99999+1"), 100000);
        due(paid("99999+2"), 100000);
        due(paid("99999*99999"), 100000);
        due(paid("0-99999-1"), -100000);
        due(paid("0-99999-2"), -100000);
        due(paid("0-99999"), -99999);
        x = new NoddingRafts();
        x.raft(1, 8);
        x.raft(2, 8);
        x.raft(3, 8);
        inForce("pay 99999 * (2 - 3 * (size / 3));", 0);
        x.go(1);
        due(x.booked(0, 1), 200000 - 99999);
        for (int i = 0; i < 7; i++) {
            x.raft(1, 8);
        }
        x.go(1);
        due(x.booked(1, 1), 900000 - 99999);
    }

    /** It breaks loose in the SPELL: power is what it TOOK ahead of that, hold and ready are as they are behind it. */
    @Says("NAMES as they are now (power: of this SPELL)")
    void payGoesByTheNamesAsTheyAreNow() {
        laid(20, 8, 0, 10);
        inForce("pay power * 10 + hold * 3 + ready;", 0);
        sea(0, 9, SEA10);
        x.go(2);
        due(x.told(0, 0), 3);
        due(x.booked(0, 1), 4000);
        due(x.booked(1, 1), 0);
        x = new NoddingRafts();
        laid(15, 8, 0, 300);
        inForce("pay hold * 2 + ready;", 0);
        x.reading(0, what(25, 8, 0));
        x.go(1);
        due(x.booked(0, 1), 597);
    }

    @Says("(6) BEACH of each COLUMN: BASE less what PASSES, by 1000 (cut toward 0).")
    void beachIsCutTowardNothing() {
        x.reading(0, what(10, 10, 0));
        x.go(1);
        due(x.booked(0, 10), 1000);
        int[] bases = {3000, 2000, 1999, 1000, 1, 0};
        int[] changes = {2, 1, 0, 0, 0, -1};
        for (int i = 0; i < bases.length; i++) {
            x.base(bases[i]);
            due(x.beach(9, 100, 100, true), changes[i]);
        }
    }

    @Says("BASE is 50000 at first (told: for all SPELLS).")
    void baseIs50000AtFirst() {
        x.reading(0, what(70, 10, 0));
        x.reading(1, what(60, 15, 0));
        x.go(1);
        due(x.beach(0, 100, 100, true), 1);
        x.go(1);
        due(x.beach(0, 100, 100, true), 1 - 4);
        x.base(49999);
        due(x.beach(0, 100, 100, true), 0 - 4);
        x.base(50001);
        due(x.beach(0, 100, 100, true), 1 - 3);
        x.base(55000);
        due(x.beach(0, 100, 100, true), 6 + 1);
    }

    @Says("BOOKED is what came out as the SPELL ended, all SPELLS by what was KNOWN in each then.")
    void whatIsBookedStands() {
        laid(20, 8, 0, 5000);
        inForce("pay height;", 0);
        x.reading(0, SEA10);
        x.go(2);
        x.reading(0, what(50, 8, 0));
        x.reading(1, what(50, 8, 0));
        x.drift(0, 479, 5);
        x.base(0);
        inForce("pay 1;", 2);
        x.go(1);
        for (int spell = 0; spell < 2; spell++) {
            due(x.booked(spell, 0), 400);
            due(x.booked(spell, 1), 10);
            due(x.booked(spell, 10), 400);
        }
        due(x.booked(2, 0), 12100);
    }

    /** SPELL 1 goes by what became of the raft in SPELL 0, both by what is KNOWN as of 1, 2 or 3. */
    @Says("RIGHT as of a SPELL s is all SPELLS up to one gone through anew by what is KNOWN as of s")
    void rightGoesThroughAllSpellsAnew() {
        laid(20, 8, 0, 100);
        x.reading(0, FLAT);
        x.reading(1, SEA10);
        x.go(2);
        due(x.booked(1, 0), 400);
        x.reading(0, what(100, 8, 0));
        x.go(1);
        x.reading(0, what(2, 8, 0));
        due(x.right(1, 1, 0), 400);
        due(x.right(1, 2, 0), 0);
        due(x.right(1, 3, 0), 400);
        due(x.right(0, 1, 0), 0);
        due(x.right(0, 2, 0), 40000);
        due(x.right(0, 3, 0), 16);
    }

    /** Asked again it is gone on with, or gone through anew, and the same. */
    @Says("RIGHT as of a SPELL s is all SPELLS up to one gone through anew by what is KNOWN as of s")
    void rightIsTheSameHoweverOftenItIsAsked() {
        laid(15, 8, 0, 300);
        inForce("pay hold; sink power > 1000 and spell = 1;", 0);
        x.go(1);
        // HEIGHT 22 is a POWER of 1659, and wears the middle chain by 164.
        sea(0, 20, what(22, 8, 0));
        x.go(14);
        for (int times = 0; times < 3; times++) {
            due(x.right(0, 0, 0), 0);
            due(x.right(0, 0, 1), 300);
            due(x.right(0, 15, 0), 1659);
            due(x.right(0, 15, 1), 299);
            due(x.right(0, 0, 0), 0);
            due(x.right(14, 15, 0), 0);
            due(x.right(14, 15, 1), 299);
            due(x.would(0, 4), 0);
            due(x.would(0, 6), 7);
        }
        x = new NoddingRafts();
        laid(15, 8, 0, 300);
        inForce("pay hold;", 0);
        x.go(15);
        sea(0, 20, what(22, 8, 0));
        for (int times = 0; times < 3; times++) {
            due(x.right(14, 15, 1), 300 - 15 * 164 / 100);
            due(x.right(13, 15, 1), 300 - 14 * 164 / 100);
            due(x.would(0, 4), 0);
            due(x.owed(14, 14), -24);
        }
    }

    @Says("RIGHT as of a SPELL s is all SPELLS up to one gone through anew by what is KNOWN as of s")
    void rightAsOfASpellAheadOfADriftIsWithoutIt() {
        laid(20, 8, 0, 5000);
        sea(0, 9, SEA10);
        x.go(1);
        x.drift(0, 0, 10);
        for (int times = 0; times < 3; times++) {
            due(x.right(0, 1, 0), 1600);
            due(x.right(0, 0, 0), 400);
        }
    }

    /** Ahead of SPELL 0 there was no POWER and no SPELL in which it TOOK, however often it is gone through. */
    @Says("power: POWER of the raft in the SPELL ahead")
    void aheadOfTheFirstSpellThereWasNoPower() {
        laid(20, 8, 0, 5000);
        inForce("sink power > 0;", 0);
        x.reading(0, SEA10);
        x.go(1);
        for (int i = 1; i <= 3; i++) {
            due(x.would(0, 0), 1);
            due(x.right(0, 1, 0), 4 * (9 + i) * (9 + i));
            x.drift(0, 0, 1);
        }
    }

    @Says("(SHEETS IN FORCE, BASE as they are NOW")
    void rightGoesByTheSheetsInForce() {
        laid(20, 8, 0, 5000);
        inForce("pay 5; sink spell = 1;", 0);
        sea(0, 9, SEA10);
        x.go(2);
        inForce("pay 9; rise 1=1;", 2);
        x.go(1);
        due(x.right(0, 3, 1), 5);
        due(x.right(1, 3, 1), 5);
        due(x.right(2, 3, 1), 9);
        due(x.right(1, 3, 0), 0);
        due(x.right(2, 3, 0), 400);
    }

    /**
     * As BOOKED raft 0 broke loose and raft 1 was laid in its place; by what is known later raft 0 still lies there.
     * A raft that isn't ON SHORE can't come to be LAID anew: it was TOWED ahead of that, in either story.
     */
    @Says({"a THING that can't be done so is not done", "LAID asks for a raft ON SHORE and a free place"})
    void laidAsksForAFreePlace() {
        laid(15, 8, 42, 100);
        x.raft(20, 8);
        x.reading(0, what(120, 8, 0));
        x.reading(1, SEA10);
        x.go(1);
        due(x.told(0, 0), 3);
        x.lay(1, 42, 5000);
        x.go(1);
        due(x.booked(1, 0), 400);
        due(x.would(1, 0), 1);
        x.reading(0, FLAT);
        due(x.would(0, 0), 1);
        due(x.would(1, 0), 0);
        due(x.right(1, 2, 0), 800 * 15 / 35);
    }

    /** By what is known later the raft broke loose ahead of its new chain and its new SEALS. */
    @Says("a chain and SEALS for one AFLOAT or SUNK")
    void chainAndSealsAskForARaftAfloatOrSunk() {
        laid(20, 8, 0, 100);
        sea(0, 17, what(5, 8, 0));
        x.go(16);
        trip(0, 0, 1, 5000);
        trip(1, 0, 3, 0);
        due(x.told(0, 4), 0);
        due(x.told(0, 11), 5000);
        due(x.would(0, 4), 1);
        x.go(1);
        due(x.would(0, 4), 0);
        due(x.would(0, 6), 7);
        x.reading(15, what(120, 8, 0));
        due(x.would(0, 0), 3);
        due(x.would(0, 4), 1);
        due(x.would(0, 6), 0);
    }

    @Says("a chain and SEALS for one AFLOAT or SUNK")
    void chainAndSealsMayBeForARaftThatIsSunk() {
        laid(20, 8, 0, 100);
        inForce("sink spell = 7;", 0);
        sea(0, 17, what(5, 8, 0));
        x.go(16);
        due(x.told(0, 0), 2);
        trip(0, 0, 1, 5000);
        trip(1, 0, 3, 0);
        due(x.told(0, 11), 5000);
        due(x.boat(0, 4) + x.boat(1, 4), 2);
    }

    /** LAID was not done by what is known later, so that there is no raft to tow; what is TOWED at last is ON SHORE. */
    @Says("TOWED for one that isn't ON SHORE).")
    void towedAsksForARaftThatIsNotOnShore() {
        laid(15, 8, 42, 100);
        x.raft(20, 8);
        x.reading(0, what(120, 8, 0));
        x.reading(1, SEA10);
        x.go(1);
        x.lay(1, 42, 5000);
        trip(0, 1, 4, 0);
        x.lay(1, 52, 5000);
        x.go(1);
        x.reading(0, FLAT);
        due(x.would(1, 0), 1);
        due(x.would(0, 0), 1);
        equip(1, 2);
        x.raft(5, 8);
        x.send(1, 2, 4, 1, 0);
        x.go(1);
        due(x.boat(1, 5), 1);
    }

    // ==== 4: PARTS, BOATS, WINDOWS, PLANS

    @Says({"PARTS: 0 chains, 1 SEALS, 2 ropes", "on shore, and on BOATS 0 .. 2 (9 at most of a PART on one)."})
    void aBoatHasAtMost9OfAPart() {
        for (int part = 0; part < 3; part++) {
            x.parts(part, 20);
            due(x.load(1, part, 10), NONE);
            due(x.load(1, part, 9), 9);
            due(x.load(1, part, 1), NONE);
            due(x.count(20 + part), 11);
        }
        dueAll(new int[] {x.boat(1, 1), x.boat(1, 2), x.boat(1, 3)}, 9, 9, 9);
        due(x.load(0, 0, 8), 8);
        due(x.load(0, 0, 2), NONE);
        due(x.load(0, 0, 1), 9);
        due(x.load(-1, 0, 1), NONE);
        due(x.load(3, 0, 1), NONE);
        due(x.load(2, -1, 1), NONE);
        due(x.load(2, 3, 1), NONE);
    }

    @Says("A BOAT in port goes out to a raft for a JOB (0 .. 2 a chain, 3 SEALS, 4 to tow) with a PART of it")
    void aBoatNeedsThePartOfItsJob() {
        x.raft(5, 8);
        for (int job = 0; job < 5; job++) {
            for (int part = 0; part < 3; part++) {
                x = new NoddingRafts();
                x.raft(5, 8);
                equip(0, part);
                boolean has = part == (job < 3 ? 0 : job - 2);
                due(x.send(0, 0, job, 1, job < 3 ? 50 : 0), has ? 0 : NONE);
                due(x.boat(0, 0), has ? 0 : 1);
            }
        }
        due(x.send(1, 0, 5, 1, 0), NONE);
        due(x.send(1, 0, -1, 1, 50), NONE);
    }

    @Says("(chain: STRENGTH told)")
    void aChainHasTheStrengthThatIsTold() {
        laid(5, 8, 0, 50);
        for (int chain = 0; chain < 3; chain++) {
            trip(0, 0, chain, 1000 + chain);
        }
        dueAll(tolds(0, 10, 3), 1000, 1001, 1002);
    }

    @Says("for so many SPELLS (1 .. 8)")
    void aTripHas1To8Spells() {
        x.raft(5, 8);
        equip(0, 2);
        equip(1, 2);
        due(x.send(0, 0, 4, 0, 0), NONE);
        due(x.send(0, 0, 4, 9, 0), NONE);
        due(x.send(0, 0, 4, 8, 0), 7);
        due(x.send(1, 0, 4, 1, 0), 0);
        x.go(1);
        due(x.boat(1, 0), 1);
        x.go(6);
        due(x.boat(0, 0), 0);
        x.go(1);
        due(x.boat(0, 0), 1);
    }

    /** Of four SPELLS boat fails in one: in none of the three of the trip, then in each of them. */
    @Says("if boat holds in each of these")
    void boatMustHoldInEachSpellOfATrip() {
        for (int bad = 0; bad < 4; bad++) {
            x = new NoddingRafts();
            laid(5, 8, 0, 50);
            inForce("boat not spell = " + bad + ";", 0);
            equip(0, 2);
            due(x.send(0, 0, 4, 3, 0), 2);
            for (int spell = 0; spell < 3; spell++) {
                x.go(1);
                boolean back = spell >= bad || spell == 2;
                due(x.boat(0, 0), back ? 1 : 0);
                due(x.boat(0, 5), spell >= bad ? 1 : 0);
            }
            due(x.boat(0, 4), bad == 3 ? 1 : 0);
            due(x.told(0, 0), bad == 3 ? 0 : 1);
            due(x.boat(0, 3), 1);
        }
    }

    @Says("(asked as each begins)")
    void boatIsAskedAsEachSpellBegins() {
        laid(5, 8, 0, 50);
        inForce("boat height < 20;", 0);
        x.reading(0, what(30, 8, 0));
        equip(0, 2);
        x.send(0, 0, 4, 3, 0);
        x.reading(0, SEA10);
        x.go(1);
        due(x.boat(0, 0), 0);
        x.reading(0, what(30, 8, 0));
        x.go(1);
        due(x.boat(0, 0), 1);
        due(x.boat(0, 5), 1);
    }

    @Says("the THING is done as the last one ends (kept for the SPELL behind")
    void aThingIsDoneAsTheLastSpellEnds() {
        laid(20, 8, 0, 5000);
        sea(0, 9, SEA10);
        equip(0, 2);
        x.send(0, 0, 4, 2, 0);
        x.go(1);
        due(x.told(0, 0), 1);
        due(x.count(5), 1);
        x.go(1);
        due(x.told(0, 0), 0);
        due(x.count(5), 2);
        due(x.booked(1, 0), 400);
        due(x.would(0, 0), 1);
        x.go(1);
        due(x.would(0, 0), 0);
        due(x.right(1, 3, 0), 400);
        due(x.right(2, 3, 0), 0);
    }

    /** Both BOATS come to tow one raft; only the first one finds it there. */
    @Says("if it can't be done then")
    void whatCantBeDoneAsTheTripEndsIsNotDone() {
        laid(5, 8, 0, 50);
        equip(0, 2);
        equip(1, 2);
        equip(2, 0);
        x.send(1, 0, 4, 1, 0);
        x.send(0, 0, 4, 1, 0);
        x.send(2, 0, 1, 1, 70);
        x.go(1);
        dueAll(new int[] {x.boat(0, 4), x.boat(1, 4), x.boat(2, 4)}, 1, 0, 0);
        dueAll(new int[] {x.boat(0, 5), x.boat(1, 5), x.boat(2, 5)}, 0, 1, 1);
        due(x.count(5), 2);
        due(x.told(0, 11), 0);
        due(x.boat(2, 1), 1);
    }

    @Says("or 200 THINGS are there, nothing is, the PART stays on the BOAT)")
    void nothingIsDoneWhere200ThingsAre() {
        x.raft(5, 8);
        laid(5, 8, 90, 50);
        equip(0, 2);
        for (int i = 0; i < 99; i++) {
            x.lay(0, 0, 50);
            x.send(0, 0, 4, 1, 0);
            x.go(1);
        }
        x.lay(0, 0, 50);
        due(x.count(5), 200);
        equip(1, 0);
        equip(2, 1);
        x.send(0, 0, 4, 1, 0);
        x.send(1, 1, 0, 1, 70);
        x.send(2, 1, 3, 1, 0);
        x.go(1);
        due(x.count(5), 200);
        due(x.told(0, 0), 1);
        due(x.told(1, 10), 50);
        dueAll(new int[] {x.boat(0, 4), x.boat(1, 4), x.boat(2, 4)}, 99, 0, 0);
        dueAll(new int[] {x.boat(0, 5), x.boat(1, 5), x.boat(2, 5)}, 1, 1, 1);
        dueAll(new int[] {x.boat(0, 3), x.boat(1, 1), x.boat(2, 2)}, 1, 1, 1);
    }

    @Says("else it turns back in the first in which it doesn't (in port from then on).")
    void aBoatThatTurnedBackIsInPortFromThenOn() {
        laid(5, 8, 0, 50);
        inForce("boat not spell = 1;", 0);
        equip(0, 0);
        x.send(0, 0, 0, 5, 70);
        x.go(1);
        due(x.load(0, 0, -1), NONE);
        x.go(1);
        due(x.boat(0, 0), 1);
        due(x.boat(0, 1), 1);
        due(x.load(0, 0, -1), 0);
        due(x.load(0, 0, 1), 1);
        due(x.send(0, 0, 0, 1, 70), 2);
        x.go(1);
        due(x.told(0, 10), 70);
        due(x.boat(0, 1), 0);
    }

    @Says("A rope comes back with the BOAT.")
    void aRopeComesBackAndOtherPartsDoNot() {
        laid(5, 8, 0, 50);
        for (int part = 0; part < 3; part++) {
            x.parts(part, 2);
            x.load(part, part, 2);
        }
        x.send(0, 0, 0, 1, 70);
        x.send(1, 0, 3, 1, 0);
        x.send(2, 0, 4, 1, 0);
        x.go(1);
        dueAll(new int[] {x.boat(0, 4), x.boat(1, 4), x.boat(2, 4)}, 1, 1, 1);
        dueAll(new int[] {x.boat(0, 1), x.boat(1, 2), x.boat(2, 3)}, 1, 1, 2);
    }

    @Says("WINDOWS from NOW over n SPELLS (1 .. 40")
    void windowsAreOver1To40Spells() {
        x.go(3);
        due(x.window(0, 0, 0), NONE);
        due(x.window(1, 0, 0), 3);
        due(x.window(1, 0, 1), 1);
        due(x.window(40, 0, 0), 3);
        due(x.window(40, 0, 1), 40);
        due(x.window(41, 0, 0), NONE);
        due(x.window(-1, 0, 0), NONE);
    }

    @Says("those beyond 479 left out)")
    void spellsBeyond479AreInNoWindow() {
        goTo(470);
        due(x.window(9, 0, 1), 9);
        due(x.window(10, 0, 1), 10);
        due(x.window(11, 0, 1), 10);
        due(x.window(40, 0, 1), 10);
        x.want(10, 1);
        due(x.plan(40, 0), 0);
        x.want(11, 999);
        due(x.plan(40, NONE), 1);
        goTo(480);
        due(x.window(40, 0, 0), NONE);
        due(x.plan(40, NONE), 0);
        due(x.plan(40, 0), NONE);
    }

    @Says("runs of SPELLS (as long as can be) in which boat holds")
    void windowsAreAsLongAsCanBe() {
        inForce("boat not spell = 2 and not spell = 3 and not spell = 5;", 0);
        int[] firsts = {0, 4, 6, 12, 14};
        int[] lengths = {2, 1, 4, 1, 2};
        for (int k = 0; k < 5; k++) {
            due(x.window(16, k, 0), firsts[k]);
            due(x.window(16, k, 1), lengths[k]);
        }
        due(x.window(16, 5, 0), NONE);
        due(x.window(2, 1, 0), NONE);
        due(x.window(4, 1, 0), NONE);
        due(x.window(5, 1, 0), 4);
        x.go(1);
        due(x.window(5, 0, 0), 1);
        due(x.window(5, 0, 1), 1);
        x.go(1);
        due(x.window(2, 0, 0), NONE);
    }

    @Says("by what is KNOWN NOW.")
    void windowsGoByWhatIsKnownNow() {
        inForce("boat height < 20;", 0);
        x.reading(2, what(30, 8, 0));
        due(x.window(20, 0, 1), 2);
        due(x.window(20, 1, 0), 11);
        x.reading(2, SEA10);
        due(x.window(20, 0, 1), 20);
        x.go(1);
        x.drift(2, 2, 10);
        due(x.window(20, 0, 1), 1);
    }

    @Says("JOBS wanted are told (6 at most)")
    void jobsWantedAre6AtMost() {
        for (int i = 1; i <= 6; i++) {
            due(x.want(1, 1), i);
        }
        due(x.want(1, 999), NONE);
        due(x.count(9), 6);
        due(x.plan(40, NONE), 6);
    }

    @Says("length 1 .. 16")
    void aJobHasALengthOf1To16() {
        due(x.want(0, 5), NONE);
        due(x.want(17, 5), NONE);
        due(x.want(1, 5), 1);
        due(x.want(16, 5), 2);
    }

    @Says("worth 1 .. 999.")
    void aJobHasAWorthOf1To999() {
        due(x.want(5, 0), NONE);
        due(x.want(5, 1000), NONE);
        due(x.want(5, 1), 1);
        due(x.want(5, 999), 2);
        due(x.plan(40, NONE), 1000);
    }

    @Says("A PLAN: each in one WINDOW or none")
    void aJobIsInOneWindowOrNone() {
        inForce("boat not spell = 3;", 0);
        x.want(4, 9);
        due(x.plan(7, NONE), 0);
        due(x.plan(7, 0), NONE);
        due(x.plan(8, NONE), 9);
        due(x.plan(8, 0), 1);
    }

    @Says("all of a WINDOW together not longer than it")
    void theJobsOfAWindowAreNotLongerThanIt() {
        x.want(3, 5);
        x.want(4, 6);
        due(x.plan(7, NONE), 11);
        due(x.plan(7, 0), 0);
        due(x.plan(7, 1), 0);
        due(x.plan(6, NONE), 6);
        due(x.plan(6, 0), NONE);
        due(x.plan(6, 1), 0);
        due(x.plan(3, 0), 0);
        due(x.plan(2, NONE), 0);
    }

    @Says("the most worth")
    void aPlanHasTheMostWorth() {
        x.want(4, 10);
        x.want(2, 4);
        x.want(3, 7);
        due(x.plan(5, NONE), 11);
        due(x.plan(5, 0), NONE);
        due(x.plan(5, 1), 0);
        due(x.plan(5, 2), 0);
        due(x.plan(4, NONE), 10);
        due(x.plan(4, 0), 0);
    }

    @Says("of like ones the least length of all")
    void ofPlansOfLikeWorthTheShortestIsMade() {
        x.want(5, 10);
        x.want(2, 6);
        x.want(2, 4);
        due(x.plan(5, NONE), 10);
        due(x.plan(5, 0), NONE);
        due(x.plan(5, 1), 0);
        due(x.plan(5, 2), 0);
    }

    /** Windows of 2, 2 and 4; two JOBS of 2 and one of 4. */
    @Says("of like ones the first JOB in the earliest WINDOW")
    void theFirstJobIsInTheEarliestWindow() {
        inForce("boat not spell = 2 and not spell = 5 and day = 0 or day = 1 and spell < 2 or spell > 5;", 0);
        due(x.window(10, 0, 1), 2);
        due(x.window(10, 1, 1), 2);
        due(x.window(10, 2, 1), 4);
        x.want(2, 5);
        x.want(4, 5);
        x.want(2, 5);
        due(x.plan(10, NONE), 15);
        due(x.plan(10, 0), 0);
        due(x.plan(10, 1), 2);
        due(x.plan(10, 2), 1);
        x.want(2, 5);
        // Of three that fit, those of 2 are the shortest.
        due(x.plan(10, NONE), 15);
        due(x.plan(10, 1), NONE);
        due(x.plan(10, 3), 2);
        due(x.plan(5, NONE), 10);
        due(x.plan(5, 0), 0);
        due(x.plan(5, 2), 1);
        due(x.plan(5, 3), NONE);
    }

    /** Windows of 4 and 2: the second JOB has need of the first one. */
    @Says("of like ones the first JOB in the earliest WINDOW")
    void theFirstJobLeavesRoomForTheOthers() {
        inForce("boat not spell = 4 and not spell = 7;", 0);
        x.want(2, 5);
        x.want(4, 9);
        due(x.plan(7, NONE), 14);
        due(x.plan(7, 0), 1);
        due(x.plan(7, 1), 0);
        x.want(2, 1);
        due(x.plan(7, NONE), 14);
        due(x.plan(7, 0), 1);
        due(x.plan(7, 2), NONE);
    }

    /** What a JOB is worth counts once. */
    @Says("A PLAN: each in one WINDOW or none")
    void aJobIsInNoWindowTwice() {
        x.want(2, 5);
        x.want(4, 10);
        x.want(4, 1);
        due(x.plan(4, NONE), 10);
        due(x.plan(4, 0), NONE);
        due(x.plan(4, 1), 0);
        due(x.plan(6, NONE), 15);
        due(x.plan(6, 0), 0);
    }

    /** Over 5 SPELLS windows of 2 and 1, over 16 one of 3 behind them. */
    @Says("A PLAN: each in one WINDOW or none")
    void aPlanKnowsNothingOfAnotherOne() {
        inForce("boat not spell = 2 and not spell = 4 or day = 1;", 0);
        x.want(3, 6);
        x.want(2, 3);
        x.want(1, 3);
        due(x.plan(16, NONE), 12);
        due(x.plan(16, 0), 2);
        due(x.plan(5, NONE), 6);
        due(x.plan(5, 0), NONE);
        due(x.plan(5, 1), 0);
        due(x.plan(5, 2), 1);
        due(x.plan(16, 0), 2);
    }

    @Says("JOBS wanted are told (6 at most)")
    void sixJobsThatDoNotAllFit() {
        for (int i = 0; i < 6; i++) {
            x.want(2 + i, 3 + i);
        }
        // 2 .. 7 are 27 long: of 20 the two that are left out are 7, at least.
        due(x.plan(20, NONE), 33 - 8 - 0);
        due(x.plan(27, NONE), 33);
        due(x.plan(27, 5), 0);
        due(x.plan(26, NONE), 30);
        due(x.plan(26, 0), NONE);
        due(x.plan(26, 5), 0);
        due(x.plan(1, NONE), 0);
        due(x.plan(1, 5), NONE);
    }

    @Says("(none last), then the second one, and so on.")
    void noWindowComesLast() {
        x.want(3, 5);
        x.want(3, 5);
        x.want(3, 5);
        due(x.plan(6, NONE), 10);
        due(x.plan(6, 0), 0);
        due(x.plan(6, 1), 0);
        due(x.plan(6, 2), NONE);
        due(x.plan(3, 0), 0);
        due(x.plan(3, 1), NONE);
        x.forget();
        // Of 1 and 2 the plan of like worth and length that holds the first JOB.
        x.want(1, 3);
        x.want(2, 3);
        x.want(1, 3);
        due(x.plan(2, 0), 0);
        due(x.plan(2, 1), NONE);
        due(x.plan(2, 2), 0);
    }

    // ==== 5: LAYING, WHO PAYS, THE CABLE

    @Says("LAYING: places told (8 at most, each once)")
    void placesToldAre8AtMostEachOnce() {
        for (int i = 0; i < 8; i++) {
            due(x.place(i * 10 + 1), i + 1);
            due(x.place(i * 10 + 1), NONE);
        }
        due(x.place(0), NONE);
        due(x.count(10), 8);
    }

    @Says("for up to 3 rafts ON SHORE (told in order)")
    void upTo3RaftsOnShoreAreLaid() {
        for (int i = 0; i < 5; i++) {
            x.raft(5, 8);
        }
        for (int i = 0; i < 5; i++) {
            x.place(i * 20);
        }
        due(x.laying(2, 1, 0, 0, 0), 0);
        due(x.laying(21, 2, 0, 0, 0), 0);
        due(x.laying(21, 2, 0, 0, 1), 20);
        due(x.laying(210, 3, 0, 0, 2), 40);
        due(x.laying(2103, 4, 0, 0, 0), NONE);
        due(x.laying(0, 0, 0, 0, NONE), NONE);
        x.lay(2, 90, 5000);
        due(x.laying(2, 1, 0, 0, 0), NONE);
        due(x.laying(21, 2, 0, 0, 0), NONE);
        due(x.laying(1, 1, 0, 0, 0), 0);
    }

    @Says("one place each")
    void eachRaftHasAPlaceOfItsOwn() {
        x.raft(5, 8);
        x.raft(5, 8);
        x.raft(5, 8);
        x.place(0);
        due(x.laying(1, 2, 0, 0, NONE), NONE);
        x.place(50);
        due(x.laying(1, 2, 0, 0, NONE), 0);
        due(x.laying(1, 2, 0, 0, 0), 0);
        due(x.laying(1, 2, 0, 0, 1), 50);
        due(x.laying(12, 3, 0, 0, NONE), NONE);
    }

    /** The LANE of NOW's DAY shuts, whatever DAYS the SPELLS asked for are of. */
    @Says("none shut in a LANE of NOW's DAY")
    void placesInALaneOfTheDayAreLeftOut() {
        x.raft(5, 8);
        x.place(30);
        x.lane(3, 1, 2);
        due(x.laying(0, 1, 8009, 0, 0), 30);
        goTo(8);
        due(x.laying(0, 1, 8009, 0, 0), NONE);
        due(x.laying(0, 1, 24025, 0, 0), NONE);
        goTo(23);
        due(x.laying(0, 1, 24025, 0, 0), NONE);
        goTo(24);
        due(x.laying(0, 1, 24025, 0, 0), 30);
        due(x.laying(0, 1, 8009, 0, 0), 30);
    }

    @Says("or taken by a raft")
    void placesThatAreTakenAreLeftOut() {
        laid(15, 8, 30, 10);
        laid(5, 8, 40, 5000);
        x.raft(5, 8);
        inForce("sink size = 5;", 0);
        x.place(30);
        x.place(40);
        due(x.laying(2, 1, 0, 0, 0), NONE);
        x.reading(0, what(120, 8, 0));
        x.go(1);
        due(x.told(1, 0), 2);
        due(x.laying(2, 1, 0, 0, 0), 30);
    }

    @Says("so that over SPELLS from .. to (24 at most")
    void aLayingIsOver24SpellsAtMost() {
        x.raft(20, 8);
        x.place(0);
        sea(0, 30, SEA10);
        due(x.laying(0, 1, 5028, 0, NONE), 24 * 400);
        due(x.laying(0, 1, 5029, 0, NONE), NONE);
        due(x.laying(0, 1, 5005, 0, NONE), 400);
        due(x.laying(0, 1, 5004, 0, NONE), NONE);
        due(x.laying(0, 1, 456479, 0, NONE), 0);
        due(x.laying(0, 1, 456480, 0, NONE), NONE);
    }

    @Says("KNOWN NOW)")
    void aLayingGoesByWhatIsKnownNow() {
        x.raft(20, 8);
        x.place(0);
        x.reading(0, SEA10);
        due(x.laying(0, 1, 2, 0, NONE), 1200);
        x.go(2);
        x.reading(1, what(20, 8, 0));
        due(x.laying(0, 1, 2, 0, NONE), 400 + 1600 + 1600);
    }

    /** Half of 800 PASSES in the raft's COLUMN: just 50 of 100. In a flat sea all that PASSES is enough. */
    @Says("in each COLUMN and SPELL 100 times what PASSES is not below FLOOR (0 .. 100) times what ROW 0 has")
    void theBeachKeepsTheFloorInEachColumnAndSpell() {
        x.raft(20, 8);
        x.place(90);
        x.reading(0, SEA10);
        x.reading(1, FLAT);
        due(x.laying(0, 1, 0, 50, NONE), 400);
        due(x.laying(0, 1, 0, 51, NONE), NONE);
        due(x.laying(0, 1, 1, 51, NONE), NONE);
        due(x.laying(0, 1, 1001, 100, NONE), 0);
        due(x.laying(0, 1, 1001, 101, NONE), NONE);
        due(x.laying(0, 1, 0, -1, NONE), NONE);
        due(x.laying(0, 1, 0, 0, NONE), 400);
    }

    /** 11 * 11 * 3 is 363: 181 is TAKEN, 182 PASSES, which is 50.1 of 100. */
    @Says("100 times what PASSES is not below FLOOR (0 .. 100) times what ROW 0 has")
    void theFloorIsNotCut() {
        x.raft(20, 3);
        x.place(90);
        x.reading(0, what(11, 3, 0));
        due(x.laying(0, 1, 0, 50, NONE), 181);
        due(x.laying(0, 1, 0, 51, NONE), NONE);
    }

    /** 534 of 800 are 66.75 of 100. */
    @Says("100 times what PASSES is not below FLOOR (0 .. 100) times what ROW 0 has")
    void theFloorIsKeptToTheHundredth() {
        x.raft(10, 8);
        x.place(90);
        x.reading(0, SEA10);
        due(x.laying(0, 1, 0, 66, NONE), 266);
        due(x.laying(0, 1, 0, 67, NONE), NONE);
    }

    /** Of ten rafts seven are AFLOAT. */
    @Says("(with all that are AFLOAT now as they lie, and all these AFLOAT)")
    void aLayingBesidesSevenOthers() {
        for (int i = 0; i < 10; i++) {
            x.raft(20, 8);
            if (i < 7) {
                x.lay(i, i * 10, 5000);
            }
        }
        sea(0, 9, SEA10);
        for (int i = 0; i < 8; i++) {
            x.place(i * 10 + i / 7);
        }
        x.clear();
        x.place(70);
        x.place(80);
        x.place(90);
        due(x.laying(987, 3, 0, 0, NONE), 4000);
        due(x.laying(987, 3, 0, 0, 2), 90);
        due(x.laying(9, 1, 0, 0, NONE), 3200);
    }

    @Says("(with all that are AFLOAT now as they lie, and all these AFLOAT)")
    void aLayingCountsAllThatAreAfloatNow() {
        laid(20, 8, 0, 5000);
        laid(19, 8, 10, 5000);
        x.raft(20, 8);
        inForce("sink size = 19; rise 1=2;", 0);
        sea(0, 30, SEA10);
        x.go(1);
        x.place(1);
        x.place(11);
        // In the shadow of raft 0 it has 200; behind raft 1, which is SUNK, it has 400.
        due(x.laying(2, 1, 1001, 0, NONE), 800);
        due(x.laying(2, 1, 1001, 0, 0), 11);
        x.clear();
        x.place(1);
        due(x.laying(2, 1, 1001, 0, NONE), 600);
        due(x.laying(2, 1, 1001, 25, NONE), 600);
        due(x.laying(2, 1, 1001, 26, NONE), NONE);
        inForce("sink 1=1;", 1);
        due(x.laying(2, 1, 1001, 0, NONE), 600);
    }

    /** Behind 15 SPELLS LEAK is 0, and stays so for 24 more; behind 16 it is 1. */
    @Says("the most POWER of all these and those together (LEAK as it is now, the same in all SPELLS)")
    void aLayingGoesByTheLeakAsItIsNow() {
        laid(20, 8, 0, 5000);
        x.raft(20, 8);
        sea(0, 50, SEA10);
        x.place(90);
        x.go(15);
        due(x.laying(1, 1, 15038, 0, NONE), 24 * 800);
        x.go(1);
        due(x.laying(1, 1, 16039, 0, NONE), 24 * 796);
        trip(0, 0, 4, 0);
        due(x.laying(0, 1, 17018, 0, NONE), 2 * 396);
    }

    @Says("the most POWER of all these and those together")
    void aLayingHasTheMostPowerOfAllTogether() {
        laid(20, 8, 4, 5000);
        x.raft(10, 8);
        x.place(0);
        x.place(11);
        x.reading(0, SEA10);
        // Ahead of raft 0 it would have 266 and leave 534 to it: 267; aside 266 and 400.
        due(x.laying(1, 1, 0, 0, NONE), 666);
        due(x.laying(1, 1, 0, 0, 0), 11);
    }

    @Says("of like ones the first raft's earliest place told, then the second one's, and so on.")
    void ofLikeLayingsTheEarliestPlacesToldAreChosen() {
        for (int i = 0; i < 3; i++) {
            x.raft(5, 8);
        }
        x.place(70);
        x.place(30);
        x.place(50);
        x.place(10);
        due(x.laying(0, 1, 0, 0, 0), 70);
        due(x.laying(12, 3, 0, 0, 0), 70);
        due(x.laying(12, 3, 0, 0, 1), 30);
        due(x.laying(12, 3, 0, 0, 2), 50);
        due(x.laying(20, 2, 0, 0, 0), 70);
        due(x.laying(20, 2, 0, 0, 1), 30);
    }

    @Says("WHO PAYS a chain that broke (as BOOKED; of a raft that isn't ON SHORE, and not made new since)")
    void someonePaysForAChainThatBrokeAndWasNotMadeNew() {
        laid(15, 8, 0, 100);
        x.reading(0, what(20, 8, 0));
        x.reading(1, FLAT);
        x.go(1);
        due(x.told(0, 6), 5);
        due(x.blame(0, 0), NONE);
        due(x.blame(0, 1), 0);
        // By what is known later it would not have broken.
        x.reading(0, FLAT);
        due(x.would(0, 6), 7);
        due(x.blame(0, 1), 0);
        trip(0, 0, 1, 90);
        due(x.blame(0, 1), NONE);
        x.reading(2, what(120, 8, 0));
        x.go(1);
        due(x.told(0, 0), 3);
        due(x.blame(0, 1), 1);
        trip(0, 0, 4, 0);
        due(x.blame(0, 1), NONE);
    }

    @Says("1 the sea, if the HEIGHT of that SPELL, KNOWN NOW, is above RATED (0 .. 120; 60 at first)")
    void theSeaPaysAboveRated() {
        laid(15, 8, 0, 10);
        x.reading(0, what(60, 8, 0));
        x.go(1);
        due(x.blame(0, 0), 0);
        x.drift(0, 0, 1);
        due(x.blame(0, 0), 1);
        x.rated(61);
        due(x.blame(0, 0), 0);
        x.reading(0, what(120, 8, 0));
        due(x.blame(0, 0), 1);
        x.rated(119);
        due(x.blame(0, 0), 1);
        x.rated(120);
        due(x.blame(0, 0), 0);
        x.rated(0);
        x.reading(0, what(0, 8, 0));
        due(x.blame(0, 0), 1);
        x.drift(0, 0, -1);
        due(x.blame(0, 0), 0);
    }

    /**
     * With SIZE 1 and WAY 1 the left chain bears three times the HEIGHT: its WEAR grows by 98 or 101 a SPELL. A third of
     * 100 times 300 is 10000.
     */
    @Says("else 2 the owner, if its WEAR as BOOKED is above a third of 100 times its STRENGTH (cut)")
    void theOwnerPaysAboveAThirdOfTheStrength() {
        int[] highs = {34, 67};
        int[] lows = {67, 33};
        for (int i = 0; i < 2; i++) {
            x = new NoddingRafts();
            laid(1, 8, 0, 300);
            sea(0, highs[i] - 1, what(67, 8, 1));
            sea(highs[i], highs[i] + lows[i] - 1, what(66, 8, 1));
            goTo(highs[i] + lows[i]);
            due(x.told(0, 20), 10000 + i);
            x.reading(highs[i] + lows[i], what(80, 8, 1));
            x.go(1);
            due(x.told(0, 30), highs[i] + lows[i]);
            due(x.told(0, 20), 10000 + i);
            due(x.blame(0, 0), 1);
            x.rated(80);
            due(x.blame(0, 0), 2 * i);
        }
    }

    @Says("else 0 the maker.")
    void elseTheMakerPays() {
        laid(15, 8, 0, 10);
        x.reading(0, what(20, 8, 0));
        x.go(1);
        for (int chain = 0; chain < 3; chain++) {
            due(x.blame(0, chain), 0);
        }
    }

    @Says("THE CABLE has JOINTS 0 .. 15, one of which is bad at most")
    void theCableHas16Joints() {
        due(x.count(8), 65535);
        due(x.test(-1, 3, true), NONE);
        due(x.test(3, 16, true), NONE);
        due(x.test(0, 0, false), 65534);
        due(x.test(15, 15, false), 32766);
        due(x.test(0, 15, true), 32766);
        // None is bad.
        due(x.test(1, 14, false), 0);
    }

    @Says("a TEST from a to b is dead just if the bad one is in it.")
    void aTestIsDeadJustIfTheBadJointIsInIt() {
        due(x.test(4, 9, true), 1008);
        due(x.test(4, 4, false), 992);
        due(x.test(9, 9, false), 480);
        due(x.test(8, 15, true), 256);
        due(x.count(8), 256);
        due(x.test(8, 8, true), 256);
        due(x.test(8, 8, false), 0);
        due(x.test(0, 15, true), 0);
    }

    @Says("SUSPECTS: those for which all TESTS (20 at most) can be so.")
    void testsAre20AtMost() {
        for (int i = 0; i < 20; i++) {
            due(x.test(0, 0, false), 65534);
        }
        due(x.test(1, 1, false), NONE);
        due(x.count(8), 65534);
    }

    @Says("NEXT: the TEST a .. b which leaves the fewest SUSPECTS in the worse case")
    void theNextTestLeavesTheFewestInTheWorseCase() {
        due(x.next(), 7);
        x.test(0, 7, true);
        due(x.next(), 3);
        x.test(0, 3, true);
        due(x.next(), 1);
        x.test(0, 1, true);
        due(x.next(), 0);
        x.test(0, 0, false);
        due(x.count(8), 2);
        due(x.next(), NONE);
    }

    /** Of 3, 6 and 12 the half is 1 or 2: 0 .. 3 comes first of all; of 9 and 15 it is 0 .. 9. */
    @Says("of like ones the least a, then b.")
    void ofLikeTestsTheLeastIsNext() {
        x.test(3, 12, true);
        x.test(4, 5, false);
        x.test(7, 11, false);
        due(x.count(8), 1 << 3 | 1 << 6 | 1 << 12);
        due(x.next(), 3);
        x = new NoddingRafts();
        x.test(9, 15, true);
        x.test(10, 14, false);
        due(x.count(8), 1 << 9 | 1 << 15);
        due(x.next(), 9);
    }

    @Says("What is refused changes nothing.")
    void whatIsRefusedChangesNothing() {
        laid(15, 8, 0, 300);
        x.reading(0, what(25, 8, 0));
        due(x.lay(0, 10, 50), NONE);
        due(x.raft(0, 8), NONE);
        due(x.reading(0, what(121, 8, 0)), NONE);
        due(x.drift(0, 480, 5), NONE);
        due(x.go(81), NONE);
        due(x.count(0), 0);
        x.go(1);
        dueAll(tolds(0, 20, 3), 0, 200, 0);
        due(x.told(0, 1), 0);
        due(x.count(1), 1);
    }
}
