/** For each promise of the document: ordinary inputs, the edges that it names, and wrong inputs. */
public final class PromisesTest extends Checks {
    public static void main(String[] args) throws ReflectiveOperationException {
        new PromisesTest().runAll();
    }

    void promise01NewObject() {
        due(x.count(0), 0);
        due(x.count(1), 0);
        for (int what = 2; what <= 7; what++) {
            due(x.count(what), 0);
        }
        due(x.count(8), 65535);
        due(x.count(9), 0);
        due(x.count(10), 0);
        due(x.told(0, 0), NONE);
        due(x.go(0), 0);
        due(NONE, -1);
        due(VOID, MIN);
    }

    void promise02Reading() {
        due(x.reading(0, 0 * 1000 + 2 * 10 + 0), 1);
        due(x.reading(479, 120 * 1000 + 20 * 10 + 2), 2);
        due(x.known(479, 0, 0), 120);
        due(x.known(479, 0, 1), 20);
        due(x.known(479, 0, 2), 1);
        due(x.known(0, 0, 1), 2);
        due(x.known(0, 0, 2), -1);
        for (int what : new int[] {-1, MIN, MAX, 121 * 1000 + 81, 10 * 1000 + 11, 10 * 1000 + 210, 10 * 1000 + 83,
            10 * 1000 + 981, 0}) {
            due(x.reading(0, what), NONE);
        }
        due(x.reading(-1, 10081), NONE);
        due(x.reading(480, 10081), NONE);
        due(x.count(2), 2);
        for (int i = 3; i <= 400; i++) {
            due(x.reading(i, 10081), i);
        }
        due(x.reading(0, 10081), NONE);
        due(x.count(2), 400);
    }

    void promise02ReadingBehindTheLastSpell() {
        goTo(480);
        due(x.reading(479, 10081), NONE);
        due(x.count(2), 0);
    }

    void promise03Drift() {
        x.reading(5, 50081);
        due(x.drift(5, 5, 30), 1);
        due(x.known(5, 0, 0), 80);
        due(x.drift(0, 479, -30), 2);
        due(x.known(5, 0, 0), 50);
        due(x.drift(6, 5, 1), NONE);
        due(x.drift(5, 5, 31), NONE);
        due(x.drift(5, 5, -31), NONE);
        due(x.drift(-1, 5, 1), NONE);
        due(x.drift(5, 480, 1), NONE);
        due(x.drift(MIN, MAX, 0), NONE);
        for (int i = 3; i <= 30; i++) {
            due(x.drift(0, 0, 0), i);
        }
        due(x.drift(0, 0, 0), NONE);
        due(x.count(3), 30);
    }

    void promise03DriftBehindTheLastSpell() {
        goTo(480);
        due(x.drift(0, 0, 1), NONE);
        due(x.count(3), 0);
    }

    void promise04Known() {
        due(x.known(3, 0, 0), 0);
        due(x.known(3, 0, 1), 8);
        due(x.known(3, 0, 2), 0);
        x.reading(3, 40102);
        x.go(2);
        x.reading(3, 60050);
        x.drift(3, 3, 5);
        x.drift(4, 20, -30);
        // As of 1 the second READING and the DRIFTS were not told yet.
        due(x.known(3, 1, 0), 40);
        due(x.known(3, 1, 1), 10);
        due(x.known(3, 1, 2), 1);
        due(x.known(3, 2, 0), 65);
        due(x.known(3, 2, 1), 5);
        due(x.known(3, 2, 2), -1);
        // Eight SPELLS behind it still holds, by the DRIFTS of its own SPELL alone.
        due(x.known(11, 2, 0), 65);
        due(x.known(12, 2, 0), 0);
        due(x.known(12, 2, 1), 8);
        due(x.known(2, 2, 0), 0);
        due(x.known(3, 479, 0), 65);
        due(x.known(3, 2, 3), VOID);
        due(x.known(3, 2, -1), VOID);
        due(x.known(-1, 2, 0), VOID);
        due(x.known(480, 2, 0), VOID);
        due(x.known(3, -1, 0), VOID);
        due(x.known(3, 480, 0), VOID);
    }

    void promise04KnownIsBroughtIntoItsBoundsOnce() {
        x.reading(0, 110081);
        x.drift(0, 0, 30);
        due(x.known(0, 0, 0), 120);
        x.drift(0, 0, -30);
        due(x.known(0, 0, 0), 110);
        x.reading(0, 10081);
        x.drift(0, 0, -30);
        due(x.known(0, 0, 0), 0);
    }

    void promise05Feed() {
        due(x.feed(0x70617920, 0x353b2020, 0x20202020, 0x20202020, 0x20202020), 20);
        due(x.count(7), 20);
        due(x.fault(), NONE);
        for (int i = 2; i <= 20; i++) {
            due(x.feed(0x20202020, 0x20202020, 0x20202020, 0x20202020, 0x20202020), 20 * i);
        }
        due(x.feed(0, 0, 0, 0, 0), NONE);
        due(x.count(7), 400);
        due(x.fault(), NONE);
        x.end(381);
        due(x.feed(0, 0, 0, 0, 0), NONE);
        x.end(380);
        due(x.feed(0x20202020, 0x20202020, 0x20202020, 0x20202020, 0x202020E1), 400);
        due(x.fault(), 399);
    }

    void promise06End() {
        due(x.end(0), true);
        due(x.end(1), false);
        x.feed(0, 0, 0, 0, 0);
        due(x.end(-1), false);
        due(x.end(21), false);
        due(x.end(20), true);
        due(x.end(3), true);
        due(x.count(7), 3);
        due(x.end(4), false);
        due(x.end(MAX), false);
        due(x.end(MIN), false);
    }

    void promise07Fault() {
        due(faultOf(""), NONE);
        due(faultOf("   "), NONE);
        due(faultOf("pay5;"), NONE);
        due(faultOf("pay 5;rise 1<2;sink 1>2;boat 1=2;"), NONE);
        due(faultOf("sink height>5 or period<3 and not[way=1 or not 1=1];"), NONE);
        due(faultOf("pay height+period*way-power/hold+(size-day)*(spell+ready);"), NONE);
        due(faultOf("pay 099999;"), NONE);
        due(faultOf("pay 100000;"), 4);
        due(faultOf("pay 99999999999999999999999999999999;"), 4);
        due(faultOf("pay 4294967297;"), 4);
        due(faultOf("pay heights;"), 4);
        due(faultOf("pay heigh;"), 4);
        due(faultOf("pay 5"), 5);
        due(faultOf("pay 5   "), 8);
        due(faultOf("pay"), 3);
        due(faultOf("pay ;"), 4);
        due(faultOf("pay 5 6;"), 6);
        due(faultOf("pay 5;;"), 6);
        due(faultOf("pay -5;"), 4);
        due(faultOf("pay 5; pay 6;"), 7);
        due(faultOf("pay 5; rise 1<2; pay 6;"), 17);
        due(faultOf("pay 5 > 4;"), 6);
        due(faultOf("sink 5;"), 6);
        due(faultOf("sink 5 > 4 > 3;"), 11);
        due(faultOf("sink (5 > 4);"), 8);
        due(faultOf("sink [5 + 4];"), 11);
        due(faultOf("sink [5 < 4;"), 11);
        due(faultOf("sink 5 < 4 not 1 = 1;"), 11);
        due(faultOf("sink or;"), 5);
        due(faultOf("sink 1 = 1 and;"), 14);
        due(faultOf("pay [5];"), 4);
        due(faultOf("pay not 5;"), 4);
        due(faultOf("pay (5;"), 6);
        due(faultOf("pay 5);"), 5);
        due(faultOf("$"), 0);
        due(faultOf("pay 5;\n"), 6);
        due(faultOf("pay 5\u00e9;"), 5);
        due(faultOf("pay 5 5 $"), 6);
        due(faultOf("Pay 5;"), 0);
        due(faultOf("height 5;"), 0);
        due(faultOf("and"), 0);
        due(x.fault(), 0);
        due(x.count(7), 3);
    }

    void promise07FaultOfWhatOpensTooDeep() {
        due(faultOf("pay ((((((((1))))))));"), NONE);
        due(faultOf("pay (((((((((1)))))))));"), 12);
        due(faultOf("pay ((((((((1))))))))+((((((((1))))))));"), NONE);
        due(faultOf("sink [[[[[[[[1=1]]]]]]]];"), NONE);
        due(faultOf("sink [[[[[[[[[1=1]]]]]]]]];"), 13);
        due(faultOf("sink [[[[(((( 1 ))))=1]]]];"), NONE);
        due(faultOf("sink [[[[((((( 1 )))))=1]]]];"), 13);
        due(faultOf("sink [[[[not not not not 1=1]]]];"), NONE);
        due(faultOf("sink [[[[not not not not (1)=1]]]];"), 25);
        due(faultOf("sink not not not not not not not not not 1=1;"), 37);
        // A not ends with what it denies, so that the next one is no deeper.
        due(faultOf("sink not 1=1 and not 1=1 and not 1=1 and not 1=1 and not 1=1 and not 1=1 and not 1=1 and not 1=1 "
            + "and not 1=1 and not 1=1;"), NONE);
    }

    void promise08Sheet() {
        text("pay 5");
        due(x.sheet(), NONE);
        due(x.count(7), 5);
        text("pay 5;");
        due(x.sheet(), 0);
        due(x.count(7), 0);
        for (int i = 1; i < 10; i++) {
            due(x.sheet(), i);
        }
        text("pay 6;");
        due(x.sheet(), NONE);
        due(x.count(7), 6);
        due(x.count(4), 10);
    }

    void promise09Force() {
        due(x.force(0, 0), NONE);
        text("pay 5;");
        x.sheet();
        x.go(3);
        due(x.force(0, 2), NONE);
        due(x.force(0, 480), NONE);
        due(x.force(1, 3), NONE);
        due(x.force(-1, 3), NONE);
        due(x.force(0, MIN), NONE);
        due(x.force(0, 3), 1);
        due(x.force(0, 479), 2);
        for (int i = 3; i <= 15; i++) {
            due(x.force(0, 100), i);
        }
        due(x.force(0, 100), NONE);
    }

    void promise10Why() {
        text("pay 1; boat 1=1;");
        x.sheet();
        text("pay 2; sink 1=1;");
        x.sheet();
        text("pay 3; rise 1=1;");
        x.sheet();
        x.force(2, 10);
        x.force(0, 5);
        x.force(1, 10);
        x.force(0, 20);
        due(x.why(3, 4), NONE);
        due(x.why(3, 5), 0);
        due(x.why(3, 9), 0);
        due(x.why(3, 10), 1);
        due(x.why(1, 10), 2);
        due(x.why(0, 10), 1);
        due(x.why(2, 10), 0);
        due(x.why(3, 20), 0);
        due(x.why(0, 479), 1);
        due(x.why(0, 9), NONE);
        due(x.why(4, 10), NONE);
        due(x.why(-1, 10), NONE);
        due(x.why(3, -1), NONE);
        due(x.why(3, 480), NONE);
    }

    void promise11Raft() {
        due(x.raft(0, 8), NONE);
        due(x.raft(21, 8), NONE);
        due(x.raft(5, 1), NONE);
        due(x.raft(5, 21), NONE);
        due(x.raft(1, 2), 0);
        due(x.raft(20, 20), 1);
        due(x.told(1, 2), 20);
        due(x.told(1, 3), 20);
        due(x.told(1, 0), 0);
        for (int i = 2; i < 10; i++) {
            due(x.raft(5, 8), i);
        }
        due(x.raft(5, 8), NONE);
        due(x.count(1), 10);
    }

    void promise12Lane() {
        due(x.lane(-1, 0, 0), NONE);
        due(x.lane(10, 0, 0), NONE);
        due(x.lane(0, -1, 0), NONE);
        due(x.lane(0, 0, 60), NONE);
        due(x.lane(0, 2, 1), NONE);
        due(x.lane(0, 1, 2), 1);
        x.raft(5, 8);
        x.raft(5, 8);
        x.raft(5, 8);
        due(x.lay(0, 0, 50), 1);
        x.go(8);
        due(x.lay(1, 1, 50), NONE);
        due(x.lay(1, 11, 50), 2);
        x.go(15);
        due(x.lay(2, 1, 50), NONE);
        x.go(1);
        due(x.lay(2, 1, 50), 3);
        for (int i = 2; i <= 10; i++) {
            due(x.lane(9, 59, 59), i);
        }
        due(x.lane(9, 0, 0), NONE);
        due(x.count(6), 10);
    }

    void promise13Lay() {
        x.raft(5, 8);
        x.raft(6, 8);
        due(x.lay(2, 0, 50), NONE);
        due(x.lay(-1, 0, 50), NONE);
        due(x.lay(0, 5, 50), NONE);
        due(x.lay(0, -1, 50), NONE);
        due(x.lay(0, 100, 50), NONE);
        due(x.lay(0, 95, 50), NONE);
        due(x.lay(0, 0, 9), NONE);
        due(x.lay(0, 0, 5001), NONE);
        due(x.count(5), 0);
        due(x.lay(0, 94, 10), 1);
        due(x.told(0, 0), 1);
        due(x.told(0, 1), 94);
        due(x.told(0, 6), 7);
        due(x.told(0, 10), 10);
        due(x.told(0, 12), 10);
        due(x.told(0, 20), 0);
        due(x.told(0, 30), NONE);
        due(x.lay(0, 0, 50), NONE);
        due(x.lay(1, 94, 50), NONE);
        due(x.lay(1, 0, 5000), 2);
    }

    /** A THING is kept with its SPELL, and behind the last one there is none. */
    void promise13LayBehindTheLastSpell() {
        x.raft(5, 8);
        x.raft(6, 8);
        for (int i = 0; i < 5; i++) {
            x.go(80);
        }
        x.go(79);
        due(x.lay(0, 0, 50), 1);
        due(x.go(1), 480);
        due(x.lay(1, 10, 50), NONE);
        due(x.count(5), 1);
        due(x.told(1, 0), 0);
        due(x.told(1, 1), NONE);
    }

    /** Lays a raft and tows it home till no THING more can be; by boats as well. */
    void promise13LayAtMostTwoHundredThings() {
        for (int i = 0; i < 10; i++) {
            x.raft(5, 8);
        }
        for (int part = 0; part < 3; part++) {
            x.parts(2, 1);
            x.load(part, 2, 1);
        }
        x.lay(1, 10, 50);
        x.lay(2, 20, 50);
        int things = 2;
        while (things < 199) {
            things++;
            due(x.lay(0, 0, 50), things);
            if (things < 199) {
                x.send(0, 0, 4, 1, 0);
                x.go(1);
                things++;
                due(x.count(5), things);
            }
        }
        // One THING more can be: of two BOATS whose rafts lie there the first one does it.
        x.send(1, 0, 4, 1, 0);
        x.send(2, 1, 4, 1, 0);
        x.go(1);
        due(x.count(5), 200);
        due(x.told(0, 0), 0);
        due(x.told(1, 0), 1);
        due(x.boat(1, 4), 1);
        due(x.boat(2, 4), 0);
        due(x.boat(2, 5), 1);
        due(x.boat(2, 3), 1);
        due(x.lay(0, 0, 50), NONE);
        due(x.lay(3, 1, 50), NONE);
        due(x.count(5), 200);
    }

    void promise14Base() {
        x.reading(0, 10081);
        x.go(1);
        due(x.beach(0, 100, 100, true), 49);
        due(x.base(-1), false);
        due(x.base(288001), false);
        due(x.beach(0, 100, 100, true), 49);
        due(x.base(0), true);
        due(x.beach(0, 200, 200, false), 0);
        due(x.base(288000), true);
        due(x.beach(0, 100, 100, true), 287);
    }

    /** 50000 less 49000 that pass is just 1000; a BASE by one greater or less is cut elsewhere. */
    void promise14BaseAtFirst() {
        x.reading(0, 70101);
        x.reading(1, 50201);
        x.go(2);
        due(x.booked(0, 10), 49000);
        due(x.booked(1, 10), 50000);
        due(x.beach(0, 100, 100, true), 1);
        x.base(49999);
        due(x.beach(0, 100, 100, true), 0);
        x.base(50001);
        due(x.beach(0, 100, 100, true), 1);
        x.base(51000);
        due(x.beach(0, 100, 100, true), 3);
    }

    void promise15Rated() {
        due(x.rated(-1), false);
        due(x.rated(121), false);
        due(x.rated(0), true);
        due(x.rated(120), true);
    }

    /** HEIGHT 60 is not above 60, 61 is. */
    void promise15RatedAtFirst() {
        x.raft(20, 8);
        x.lay(0, 0, 10);
        x.reading(0, 60081);
        x.go(1);
        due(x.blame(0, 0), 0);
        x.drift(0, 0, 1);
        due(x.blame(0, 0), 1);
        x.rated(61);
        due(x.blame(0, 0), 0);
        x.rated(121);
        due(x.blame(0, 0), 0);
    }

    void promise16Go() {
        due(x.go(-1), NONE);
        due(x.go(81), NONE);
        due(x.go(MAX), NONE);
        due(x.go(0), 0);
        due(x.go(80), 80);
        x.go(80);
        x.go(80);
        x.go(80);
        x.go(80);
        due(x.go(79), 479);
        due(x.go(80), 480);
        due(x.go(80), 480);
        due(x.count(0), 480);
    }

    void promise16GoWaves() {
        x.raft(20, 8);
        x.raft(20, 6);
        x.raft(20, 8);
        x.lay(0, 0, 5000);
        x.lay(1, 11, 5000);
        x.lay(2, 93, 5000);
        // 10 * 10 * 8 = 800; the first takes half. One column on, the second takes 70 of 100 of 400, and half of that.
        x.reading(0, 10082);
        x.go(1);
        due(x.told(0, 5), 400);
        due(x.told(1, 5), 140);
        due(x.told(2, 5), 400);
        due(x.booked(0, 0), 940);
        due(x.booked(0, 14), 260);
        // What the third leaves goes out at the side; column 0 has the open sea.
        due(x.booked(0, 10), 800);
        due(x.booked(0, 19), 800);
        due(x.booked(0, 15), 800);
        // To the left the first's rest leaves at once; the third's comes to column 8.
        x.reading(1, 10080);
        x.go(1);
        due(x.told(0, 5), 400);
        due(x.told(1, 5), 280);
        due(x.booked(1, 10), 800);
        due(x.booked(1, 18), 400);
        due(x.booked(1, 19), 800);
        // 1 less than 15 for each: with a PERIOD 7 off, FIT is 0.
        x.reading(2, 10151);
        x.go(1);
        due(x.told(0, 5), 0);
        due(x.booked(2, 10), 1500);
    }

    void promise16GoCuts() {
        x.raft(3, 9);
        x.lay(0, 0, 5000);
        x.reading(0, 3071);
        x.go(1);
        // 3 * 3 * 7 = 63; by FIT 70 it is 44.1, cut 44; by 3 of 23 it is 5.7, cut 5.
        due(x.told(0, 5), 5);
        due(x.booked(0, 10), 58);
    }

    void promise16GoSinksAndRises() {
        x.raft(10, 8);
        inForce("sink height > 20; rise height < 30;", 0);
        x.lay(0, 0, 5000);
        x.reading(0, 25081);
        x.go(1);
        // Sunk in this SPELL; it does not rise in the same one, though rise holds.
        due(x.told(0, 0), 2);
        due(x.told(0, 1), 0);
        due(x.told(0, 5), 0);
        due(x.told(0, 6), 7);
        x.go(1);
        due(x.told(0, 0), 1);
        x.go(1);
        due(x.told(0, 0), 2);
    }

    void promise16GoNames() {
        String[] names = {"height", "period", "way", "size", "day", "spell", "ready", "hold", "power"};
        int[] afloat = {10, 8, 2, 12, 1, 2, 1, 77, 300};
        for (int i = 0; i < names.length; i++) {
            x = new NoddingRafts();
            x.raft(12, 8);
            inForce("pay " + names[i] + ";", 0);
            x.go(10);
            due(x.booked(9, 1), new int[] {0, 8, 1, 12, 1, 1, 0, 0, 0}[i]);
            x.reading(10, 10082);
            x.lay(0, 0, 77);
            x.go(1);
            due(x.booked(10, 1), afloat[i]);
        }
    }

    /** For sink and rise, power is of the SPELL ahead; hold is as the chains were. */
    void promise16GoNamesAhead() {
        x.raft(20, 8);
        inForce("sink power > 399;", 0);
        x.lay(0, 0, 5000);
        x.reading(0, 10081);
        x.go(1);
        due(x.told(0, 0), 1);
        due(x.told(0, 5), 400);
        x.go(1);
        due(x.told(0, 0), 2);
        due(x.told(0, 5), 0);
    }

    void promise16GoReckons() {
        String[] pays = {"7/2", "(0-7)/2", "5/0", "99999*99999", "0-99999*99999", "99999*99999+5-99999*10",
            "2+3*4", "(2+3)*4", "20-5-3", "100/5/2", "99999+2", "3*0-7", "99999*11/10", "99999*10-99998*10"};
        int[] due = {3, -3, 0, 100000, -100000, 10, 14, 20, 12, 10, 100000, -7, 100000, 10};
        for (int i = 0; i < pays.length; i++) {
            x = new NoddingRafts();
            x.raft(1, 8);
            inForce("pay " + pays[i] + ";", 0);
            x.go(1);
            due(x.booked(0, 1), due[i]);
        }
    }

    void promise16GoDecides() {
        String[] conditions = {"1=1 or 1=2 and 1=2", "[1=1 or 1=2] and 1=2", "not 1=2 and 1=1", "not [1=2 or 1=1]",
            "not not 1=1", "2>1", "1>1", "1<1", "1<2", "1=2 or 1=2 or 1=1", "not 1=1 or 1=1"};
        boolean[] holds = {true, false, true, false, true, true, false, false, true, true, true};
        for (int i = 0; i < conditions.length; i++) {
            x = new NoddingRafts();
            x.raft(1, 8);
            x.lay(0, 0, 100);
            inForce("sink " + conditions[i] + ";", 0);
            x.go(1);
            due(x.told(0, 0), holds[i] ? 2 : 1);
        }
    }

    void promise16GoChains() {
        x.raft(15, 8);
        x.lay(0, 0, 400);
        // LOAD 20 * 20 = 400: 200, 133, 66 with WAY 1.
        x.reading(0, 20082);
        x.go(1);
        due(x.told(0, 20), 100);
        due(x.told(0, 21), 33);
        due(x.told(0, 22), 0);
        // 66, 133, 200 with WAY -1; 80, 240, 80 with WAY 0.
        x.reading(1, 20080);
        x.reading(2, 20081);
        x.go(2);
        due(x.told(0, 20), 100);
        due(x.told(0, 21), 206);
        due(x.told(0, 22), 100);
        // HOLD of the middle one is 398 now: 67 * 20 * 3 / 5 = 804 breaks it, 268 is held; its WEAR stands.
        x.reading(3, 67081);
        x.go(1);
        due(x.told(0, 6), 5);
        due(x.told(0, 31), 3);
        due(x.told(0, 30), NONE);
        due(x.told(0, 21), 206);
        due(x.told(0, 20), 268);
        // The load is shared by the two others: 300 each.
        x.reading(4, 30081);
        x.go(1);
        due(x.told(0, 20), 468);
        due(x.told(0, 22), 468);
        due(x.told(0, 21), 206);
        // HOLD 396 each: 396 is held, 400 is too much, and the raft is LOOSE.
        x.reading(5, 40081);
        x.go(1);
        due(x.told(0, 6), 0);
        due(x.told(0, 0), 3);
        due(x.told(0, 1), NONE);
        due(x.told(0, 30), 5);
        due(x.told(0, 10), 400);
        due(x.told(0, 20), 468);
        x.raft(5, 8);
        due(x.lay(1, 0, 50), 2);
        due(x.lay(0, 1, 50), NONE);
    }

    void promise16GoHoldsWhatIsNotMoreThanHold() {
        x.raft(5, 8);
        x.lay(0, 0, 300);
        x.reading(0, 50081);
        x.go(1);
        due(x.told(0, 6), 7);
        due(x.told(0, 21), 200);
        // HOLD is 298 now.
        x.go(1);
        due(x.told(0, 6), 5);
    }

    void promise17Told() {
        x.raft(7, 9);
        due(x.told(0, 0), 0);
        due(x.told(0, 1), NONE);
        due(x.told(0, 2), 7);
        due(x.told(0, 3), 9);
        for (int what : new int[] {4, 5, 6, 7, 10, 11, 12, 20, 21, 22}) {
            due(x.told(0, what), 0);
        }
        for (int what : new int[] {30, 31, 32, 8, 9, 13, 23, 33, 40, 100, 111, -1, MIN, MAX}) {
            due(x.told(0, what), NONE);
        }
        due(x.told(1, 0), NONE);
        due(x.told(-1, 0), NONE);
        x.lay(0, 12, 1000);
        x.reading(0, 10091);
        x.go(2);
        // 10 * 10 * 9 = 900 by 7 of 27 is 233.
        due(x.told(0, 5), 233);
        due(x.told(0, 7), 466);
        due(x.told(0, 1), 12);
    }

    void promise17ToldLeak() {
        x.raft(20, 8);
        x.lay(0, 0, 5000);
        sea(0, 60, 10081);
        x.go(15);
        due(x.told(0, 4), 0);
        x.go(1);
        due(x.told(0, 4), 1);
        due(x.told(0, 5), 400);
        x.go(1);
        due(x.told(0, 5), 396);
        due(x.told(0, 7), 6796);
        x.go(15);
        due(x.told(0, 4), 2);
        // Laid anew it leaks as it did; nothing is taken meanwhile.
        x.parts(2, 1);
        x.load(0, 2, 1);
        x.send(0, 0, 4, 1, 0);
        x.go(2);
        due(x.told(0, 0), 0);
        due(x.told(0, 4), 2);
        due(x.told(0, 5), 0);
        x.lay(0, 1, 100);
        due(x.told(0, 4), 2);
    }

    void promise18Booked() {
        x.raft(10, 8);
        inForce("pay 3 + ready;", 1);
        x.reading(0, 10081);
        due(x.booked(0, 0), VOID);
        x.go(1);
        x.lay(0, 0, 1000);
        x.go(1);
        due(x.booked(0, 0), 0);
        due(x.booked(0, 1), 0);
        due(x.booked(1, 0), 266);
        due(x.booked(1, 1), 4);
        due(x.booked(1, 10), 534);
        due(x.booked(1, 19), 800);
        for (int what : new int[] {2, 9, 20, -1, MIN, MAX}) {
            due(x.booked(1, what), VOID);
        }
        due(x.booked(2, 0), VOID);
        due(x.booked(-1, 0), VOID);
        // What is known later does not change what is BOOKED.
        x.drift(0, 0, 30);
        due(x.booked(1, 0), 266);
    }

    /** Each raft that had come by then is paid, wherever it is; power is of this SPELL. */
    void promise18BookedPay() {
        x.raft(10, 8);
        inForce("pay power + 1000;", 0);
        x.reading(0, 10081);
        x.lay(0, 0, 1000);
        x.go(1);
        due(x.booked(0, 1), 1266);
        x.raft(1, 8);
        x.go(1);
        due(x.booked(1, 1), 2266);
        due(x.right(0, 2, 1), 1266);
        due(x.owed(0, 1), 0);
    }

    void promise19Right() {
        x.raft(10, 8);
        x.lay(0, 42, 100);
        x.reading(0, 10081);
        x.go(2);
        x.drift(0, 0, 10);
        x.go(2);
        x.reading(1, 81);
        due(x.right(0, 1, 0), 266);
        due(x.right(0, 2, 0), 1066);
        due(x.right(1, 2, 0), 1066);
        due(x.right(1, 4, 0), 0);
        due(x.right(0, 4, 0), 1066);
        due(x.right(0, 2, 14), 2134);
        due(x.right(0, 2, 10), 3200);
        due(x.right(0, 2, 1), 0);
        // SPELL 2 goes by the READING of SPELL 0 as of 2, by that of SPELL 1 as of 4.
        due(x.right(2, 3, 0), 0);
        due(x.right(2, 2, 0), 0);
        due(x.right(1, 1, 0), 266);
        due(x.right(1, 0, 0), VOID);
        due(x.right(0, 5, 0), VOID);
        due(x.right(4, 4, 0), VOID);
        due(x.right(-1, 0, 0), VOID);
        due(x.right(0, -1, 0), VOID);
        due(x.right(0, 2, 2), VOID);
        due(x.right(0, 2, 20), VOID);
    }

    /** By what is known later the raft is LOOSE ahead of its new chain, so that this THING is not done. */
    void promise19RightLeavesOutWhatCantBeDone() {
        x.raft(10, 8);
        x.raft(10, 8);
        x.parts(0, 1);
        x.parts(2, 1);
        x.load(0, 0, 1);
        x.load(1, 2, 1);
        x.lay(0, 0, 100);
        sea(0, 20, 10081);
        x.send(0, 0, 1, 3, 3000);
        x.go(3);
        due(x.told(0, 11), 3000);
        x.send(1, 0, 4, 1, 0);
        x.go(1);
        x.lay(1, 0, 100);
        x.go(2);
        due(x.told(0, 0), 0);
        due(x.told(1, 0), 1);
        x.reading(0, 120081);
        due(x.would(0, 0), 0);
        due(x.would(1, 0), 3);
        x.reading(1, 81);
        due(x.would(1, 0), 1);
        due(x.would(1, 6), 7);
        due(x.right(5, 6, 0), 0);
        due(x.booked(5, 0), 266);
        due(x.right(0, 6, 0), 38400);
        due(x.right(1, 6, 0), 0);
    }

    void promise20Owed() {
        x.raft(10, 8);
        inForce("pay power;", 0);
        x.lay(0, 0, 5000);
        x.reading(0, 10081);
        due(x.owed(0, 0), VOID);
        x.go(3);
        due(x.owed(0, 2), 0);
        x.drift(0, 0, 10);
        due(x.owed(0, 2), 2400);
        due(x.owed(1, 1), 800);
        x.drift(0, 0, -20);
        due(x.owed(0, 2), -798);
        due(x.owed(0, 3), VOID);
        due(x.owed(-1, 1), VOID);
        due(x.owed(2, 1), VOID);
        due(x.owed(MIN, MAX), VOID);
    }

    void promise21Would() {
        x.raft(10, 8);
        x.lay(0, 0, 100);
        due(x.would(0, 0), NONE);
        x.reading(0, 10081);
        x.go(1);
        due(x.would(0, 0), 1);
        due(x.would(0, 6), 7);
        due(x.would(0, 4), 0);
        x.drift(0, 0, 10);
        due(x.would(0, 6), 5);
        due(x.told(0, 6), 7);
        for (int what : new int[] {1, 2, 3, 5, 7, 8, 10, -1, MIN}) {
            due(x.would(0, what), NONE);
        }
        due(x.would(1, 0), NONE);
        due(x.would(-1, 0), NONE);
        // What is told NOW is not behind the last SPELL that is over.
        x.raft(5, 8);
        x.lay(1, 1, 100);
        due(x.would(1, 0), 0);
        x.go(1);
        due(x.would(1, 0), 1);
    }

    void promise21WouldLeak() {
        x.raft(20, 8);
        x.lay(0, 0, 5000);
        x.go(20);
        due(x.would(0, 4), 0);
        sea(0, 20, 10081);
        due(x.would(0, 4), 1);
        due(x.told(0, 4), 0);
    }

    /** A SPELL gone through again begins without the POWER and the LEAK of the time before. */
    void promise21WouldBeginsAnew() {
        x.raft(20, 8);
        inForce("sink power > 0;", 0);
        x.lay(0, 0, 5000);
        x.reading(0, 10081);
        x.go(1);
        due(x.would(0, 0), 1);
        x.reading(0, 20081);
        due(x.would(0, 0), 1);
        x.drift(0, 0, 1);
        due(x.would(0, 0), 1);
        x = new NoddingRafts();
        x.raft(20, 8);
        x.lay(0, 0, 5000);
        x.reading(0, 10081);
        x.go(15);
        x.reading(9, 10081);
        due(x.would(0, 4), 0);
        x.drift(0, 0, 1);
        due(x.would(0, 4), 0);
        due(x.right(14, 15, 0), 400);
    }

    void promise22Beach() {
        due(x.beach(0, 0, 200, true), 0);
        x.reading(0, 10081);
        x.reading(1, 100101);
        x.go(2);
        // Changes: (50000 - 800) by 1000 is 49, (50000 - 100000) by 1000 is -50.
        due(x.beach(0, 100, 100, true), -1);
        due(x.beach(0, 100, 100, false), -1);
        due(x.beach(9, 50, 150, true), 73 - 25);
        due(x.beach(9, 50, 150, false), 24 - 75);
        due(x.beach(0, 0, 200, true), 98);
        due(x.beach(0, 0, 200, false), -100);
        due(x.beach(0, 1, 1, false), 0);
        due(x.beach(-1, 0, 0, true), VOID);
        due(x.beach(10, 0, 0, true), VOID);
        due(x.beach(0, -1, 0, true), VOID);
        due(x.beach(0, 0, 201, true), VOID);
        due(x.beach(0, 2, 1, true), VOID);
    }

    /** -50 by 33 of 100 is -16.5: cut toward 0, as are 999 less than BASE and more. */
    void promise22BeachCutsTowardNothing() {
        x.reading(0, 100101);
        x.go(1);
        due(x.beach(0, 33, 33, false), -16);
        x.base(99001);
        due(x.beach(0, 100, 100, false), 0);
        x.base(99000);
        due(x.beach(0, 100, 100, false), -1);
    }

    void promise23Parts() {
        due(x.parts(-1, 1), NONE);
        due(x.parts(3, 1), NONE);
        due(x.parts(0, 0), NONE);
        due(x.parts(0, 21), NONE);
        due(x.parts(0, 20), 20);
        due(x.parts(1, 1), 1);
        x.parts(0, 20);
        x.parts(0, 20);
        due(x.parts(0, 20), 80);
        due(x.parts(0, 20), NONE);
        due(x.parts(0, 19), 99);
        due(x.parts(0, 1), NONE);
        due(x.count(20), 99);
        due(x.count(21), 1);
        due(x.count(22), 0);
    }

    void promise24Load() {
        due(x.load(0, 0, 1), NONE);
        x.parts(0, 12);
        due(x.load(0, 0, 10), NONE);
        due(x.load(0, 0, 9), 9);
        due(x.load(0, 0, 1), NONE);
        due(x.count(20), 3);
        due(x.load(1, 0, 4), NONE);
        due(x.load(1, 0, 3), 3);
        due(x.load(1, 0, -4), NONE);
        due(x.load(1, 0, -3), 0);
        due(x.count(20), 3);
        due(x.load(-1, 0, 1), NONE);
        due(x.load(3, 0, 1), NONE);
        due(x.load(0, 3, 1), NONE);
        due(x.load(0, -1, 1), NONE);
        due(x.load(0, 0, MIN), NONE);
        due(x.load(0, 0, MAX), NONE);
        x.raft(5, 8);
        x.send(0, 0, 0, 1, 50);
        due(x.load(0, 0, -1), NONE);
        x.go(1);
        due(x.load(0, 0, -1), 8);
    }

    void promise24LoadBackUpToNinetyNine() {
        for (int i = 0; i < 5; i++) {
            x.parts(1, i == 0 ? 19 : 20);
        }
        due(x.load(1, 1, 3), 3);
        due(x.load(2, 1, 1), 1);
        due(x.parts(1, 2), 97);
        due(x.load(1, 1, -3), NONE);
        due(x.boat(1, 2), 3);
        due(x.count(21), 97);
        due(x.load(1, 1, -2), 1);
        due(x.count(21), 99);
        due(x.load(1, 1, -1), NONE);
        due(x.load(2, 1, -1), NONE);
        due(x.load(1, 1, 0), 1);
        due(x.load(2, 1, 1), 2);
        due(x.load(1, 1, -1), 0);
    }

    void promise25Send() {
        due(x.send(0, 0, 0, 1, 50), NONE);
        x.raft(5, 8);
        due(x.send(0, 0, 0, 1, 50), NONE);
        for (int part = 0; part < 3; part++) {
            x.parts(part, 3);
            for (int boat = 0; boat < 3; boat++) {
                x.load(boat, part, 1);
            }
        }
        due(x.send(-1, 0, 0, 1, 50), NONE);
        due(x.send(3, 0, 0, 1, 50), NONE);
        due(x.send(0, 1, 0, 1, 50), NONE);
        due(x.send(0, -1, 0, 1, 50), NONE);
        due(x.send(0, 0, 5, 1, 0), NONE);
        due(x.send(0, 0, -1, 1, 50), NONE);
        due(x.send(0, 0, 0, 0, 50), NONE);
        due(x.send(0, 0, 0, 9, 50), NONE);
        due(x.send(0, 0, 0, 1, 9), NONE);
        due(x.send(0, 0, 2, 1, 5001), NONE);
        due(x.send(0, 0, 3, 1, 50), NONE);
        due(x.send(0, 0, 4, 1, 50), NONE);
        due(x.send(0, 0, 0, 8, 10), 7);
        due(x.send(0, 0, 0, 1, 50), NONE);
        due(x.send(1, 0, 3, 1, 0), 0);
        due(x.send(2, 0, 4, 2, 0), 1);
        due(x.boat(0, 0), 0);
    }

    void promise25SendDoesItsThing() {
        x.raft(15, 8);
        x.parts(0, 2);
        x.parts(1, 2);
        x.parts(2, 1);
        x.load(0, 0, 2);
        x.load(1, 1, 2);
        x.load(2, 2, 1);
        x.lay(0, 0, 300);
        sea(0, 100, 10081);
        x.reading(0, 40081);
        x.reading(1, 10081);
        x.go(1);
        due(x.told(0, 6), 5);
        due(x.send(0, 0, 1, 3, 700), 3);
        x.go(2);
        due(x.told(0, 6), 5);
        due(x.boat(0, 0), 0);
        due(x.boat(0, 1), 2);
        x.go(1);
        due(x.told(0, 6), 7);
        due(x.told(0, 11), 700);
        due(x.told(0, 21), 0);
        due(x.told(0, 31), NONE);
        due(x.boat(0, 0), 1);
        due(x.boat(0, 1), 1);
        due(x.boat(0, 4), 1);
        due(x.count(5), 2);
        // New SEALS: from the 16th SPELL behind them on it leaks again.
        x.go(16);
        due(x.told(0, 4), 1);
        x.send(1, 0, 3, 1, 0);
        x.go(1);
        due(x.told(0, 4), 0);
        due(x.boat(1, 2), 1);
        x.go(15);
        due(x.told(0, 4), 0);
        x.go(1);
        due(x.told(0, 4), 1);
        // Towed home, it has no chains; the rope comes back.
        x.send(2, 0, 4, 1, 0);
        x.go(1);
        due(x.told(0, 0), 0);
        due(x.told(0, 1), NONE);
        due(x.told(0, 6), 0);
        due(x.told(0, 10), 0);
        due(x.boat(2, 3), 1);
        due(x.boat(2, 4), 1);
        due(x.count(5), 4);
        // A raft ON SHORE can have none of it.
        x.send(2, 0, 4, 1, 0);
        x.send(1, 0, 3, 1, 0);
        x.send(0, 0, 0, 1, 100);
        x.go(1);
        due(x.boat(2, 5), 1);
        due(x.boat(1, 5), 1);
        due(x.boat(0, 5), 1);
        due(x.boat(0, 1), 1);
        due(x.boat(1, 2), 1);
        due(x.count(5), 4);
    }

    void promise25SendTurnsBack() {
        x.raft(5, 8);
        x.lay(0, 0, 100);
        x.parts(2, 3);
        x.load(0, 2, 1);
        x.load(1, 2, 1);
        inForce("boat height < 20 and power + hold + size + ready = 0;", 0);
        x.reading(2, 20081);
        x.reading(3, 10081);
        x.send(0, 0, 4, 4, 0);
        x.go(2);
        due(x.boat(0, 0), 0);
        x.go(1);
        due(x.boat(0, 0), 1);
        due(x.boat(0, 5), 1);
        due(x.boat(0, 4), 0);
        due(x.told(0, 0), 1);
        // Asked as the SPELL begins: what is told behind the sending counts.
        x.send(0, 0, 4, 1, 0);
        x.reading(3, 50081);
        x.go(1);
        due(x.boat(0, 5), 2);
        x.reading(4, 10081);
        x.send(1, 0, 4, 1, 0);
        x.go(1);
        due(x.boat(1, 4), 1);
        due(x.told(0, 0), 0);
    }

    void promise25SendUpToTheLastSpell() {
        x.raft(5, 8);
        x.raft(5, 8);
        x.parts(2, 1);
        x.load(0, 2, 1);
        x.lay(0, 0, 100);
        for (int i = 0; i < 5; i++) {
            x.go(80);
        }
        x.go(72);
        due(x.send(0, 0, 4, 8, 0), 479);
        x.go(1);
        due(x.go(7), 480);
        due(x.told(0, 0), 0);
        due(x.boat(0, 4), 1);
        due(x.send(0, 0, 4, 1, 0), NONE);
        due(x.would(0, 0), 1);
    }

    void promise25SendBeyondTheLastSpell() {
        x.raft(5, 8);
        x.parts(2, 1);
        x.load(0, 2, 1);
        for (int i = 0; i < 5; i++) {
            x.go(80);
        }
        x.go(73);
        due(x.send(0, 0, 4, 8, 0), NONE);
        due(x.send(0, 0, 4, 7, 0), 479);
    }

    void promise26Boat() {
        due(x.boat(-1, 0), NONE);
        due(x.boat(3, 0), NONE);
        due(x.boat(0, -1), NONE);
        due(x.boat(0, 6), NONE);
        for (int boat = 0; boat < 3; boat++) {
            due(x.boat(boat, 0), 1);
            for (int what = 1; what <= 5; what++) {
                due(x.boat(boat, what), 0);
            }
        }
        x.parts(1, 5);
        x.load(2, 1, 4);
        due(x.boat(2, 2), 4);
        due(x.boat(2, 1), 0);
        due(x.boat(1, 2), 0);
    }

    void promise27Want() {
        due(x.want(0, 1), NONE);
        due(x.want(17, 1), NONE);
        due(x.want(1, 0), NONE);
        due(x.want(1, 1000), NONE);
        due(x.want(1, 1), 1);
        due(x.want(16, 999), 2);
        for (int i = 3; i <= 6; i++) {
            due(x.want(2, 2), i);
        }
        due(x.want(2, 2), NONE);
        due(x.count(9), 6);
    }

    void promise28Forget() {
        due(x.forget(), 0);
        x.want(2, 2);
        x.want(3, 3);
        due(x.forget(), 2);
        due(x.count(9), 0);
        due(x.plan(10, 0), NONE);
        due(x.plan(10, -1), 0);
        due(x.want(1, 1), 1);
        due(x.plan(10, -1), 1);
    }

    /** Windows 0 .. 3, 6 .. 7, 9 .. 9 and 12 .. 15 (as far as is asked). */
    private void fourWindows() {
        inForce("boat height < 20;", 0);
        int[] heights = {5, 5, 5, 5, 30, 30, 5, 5, 30, 5, 30, 30, 5, 5, 5, 5, 30};
        for (int i = 0; i < heights.length; i++) {
            x.reading(i, heights[i] * 1000 + 81);
        }
    }

    void promise29Window() {
        due(x.window(40, 0, 0), 0);
        due(x.window(40, 0, 1), 40);
        fourWindows();
        due(x.window(16, 0, 1), 4);
        due(x.window(16, 1, 0), 6);
        due(x.window(16, 1, 1), 2);
        due(x.window(16, 2, 0), 9);
        due(x.window(16, 2, 1), 1);
        due(x.window(14, 3, 0), 12);
        due(x.window(14, 3, 1), 2);
        due(x.window(16, 3, 1), 4);
        due(x.window(16, 4, 0), NONE);
        due(x.window(16, -1, 0), NONE);
        due(x.window(16, 0, 2), NONE);
        due(x.window(16, 0, -1), NONE);
        due(x.window(0, 0, 0), NONE);
        due(x.window(41, 0, 0), NONE);
        x.go(2);
        due(x.window(16, 0, 0), 2);
        due(x.window(16, 0, 1), 2);
    }

    void promise29WindowAtTheEnd() {
        goTo(480);
        due(x.window(40, 0, 0), NONE);
        due(x.plan(40, -1), 0);
        x = new NoddingRafts();
        for (int i = 0; i < 5; i++) {
            x.go(80);
        }
        x.go(75);
        due(x.window(40, 0, 0), 475);
        due(x.window(40, 0, 1), 5);
    }

    void promise30Plan() {
        fourWindows();
        x.want(4, 10);
        x.want(2, 6);
        x.want(2, 6);
        x.want(1, 1);
        // All go in: the first JOB in the first WINDOW, then the second in the earliest that is left.
        due(x.plan(16, -1), 23);
        due(x.plan(16, 0), 0);
        due(x.plan(16, 1), 1);
        due(x.plan(16, 2), 3);
        due(x.plan(16, 3), 2);
        // Without the last WINDOW 10 and 6 and 1 go in; in the first alone, 6 and 6 beat 10.
        due(x.plan(12, -1), 17);
        due(x.plan(12, 0), 0);
        due(x.plan(12, 1), 1);
        due(x.plan(12, 2), NONE);
        due(x.plan(12, 3), 2);
        due(x.plan(4, -1), 12);
        due(x.plan(4, 0), NONE);
        due(x.plan(4, 1), 0);
        due(x.plan(4, 2), 0);
        due(x.plan(4, 3), NONE);
        due(x.plan(0, -1), NONE);
        due(x.plan(41, -1), NONE);
        due(x.plan(16, 4), NONE);
        due(x.plan(16, -2), NONE);
        due(x.plan(16, MAX), NONE);
    }

    void promise30PlanOfLeastLength() {
        fourWindows();
        x.want(4, 5);
        x.want(3, 5);
        due(x.plan(4, -1), 5);
        due(x.plan(4, 0), NONE);
        due(x.plan(4, 1), 0);
        x.forget();
        // Of like ones the first JOB goes first, and none comes last.
        x.want(3, 5);
        x.want(3, 5);
        due(x.plan(4, 0), 0);
        due(x.plan(4, 1), NONE);
    }

    /** The first JOB in the earliest WINDOW, though the others then have to go elsewhere. */
    void promise30PlanOfTheEarliestWindow() {
        fourWindows();
        x.want(2, 5);
        x.want(4, 7);
        x.want(2, 5);
        due(x.plan(16, -1), 17);
        due(x.plan(16, 0), 0);
        due(x.plan(16, 1), 3);
        due(x.plan(16, 2), 0);
    }

    void promise31Place() {
        due(x.place(-1), NONE);
        due(x.place(5), NONE);
        due(x.place(95), NONE);
        due(x.place(100), NONE);
        due(x.place(94), 1);
        due(x.place(94), NONE);
        due(x.place(0), 2);
        for (int i = 3; i <= 8; i++) {
            due(x.place(i * 10), i);
        }
        due(x.place(1), NONE);
        due(x.count(10), 8);
    }

    void promise32Clear() {
        due(x.clear(), 0);
        x.place(0);
        x.place(1);
        due(x.clear(), 2);
        due(x.count(10), 0);
        due(x.place(1), 1);
    }

    void promise33Laying() {
        x.raft(20, 8);
        x.raft(20, 8);
        x.raft(10, 8);
        x.raft(20, 5);
        sea(0, 30, 10081);
        due(x.laying(0, 1, 0, 0, -1), NONE);
        x.place(11);
        x.place(12);
        x.place(50);
        // 800 each in columns of their own: 400 and 400; behind one another 400 and 200.
        due(x.laying(1, 2, 0, 0, -1), 800);
        due(x.laying(1, 2, 0, 0, 0), 11);
        due(x.laying(1, 2, 0, 0, 1), 50);
        due(x.laying(10, 2, 0, 0, 0), 11);
        due(x.laying(2, 1, 0, 0, -1), 266);
        due(x.laying(2, 1, 3026, 0, -1), 24 * 266);
        due(x.laying(12, 3, 0, 0, -1), 400 + 133 + 400);
        // The beach: 534 of 800 pass behind the small one, 400 behind a great one.
        due(x.laying(2, 1, 0, 66, -1), 266);
        due(x.laying(2, 1, 0, 67, -1), NONE);
        due(x.laying(2, 1, 0, 67, 0), NONE);
        due(x.laying(0, 1, 0, 50, -1), 400);
        due(x.laying(0, 1, 0, 51, -1), NONE);
        for (int rafts : new int[] {-1, 4, 10, MIN, MAX}) {
            due(x.laying(rafts, 1, 0, 0, -1), NONE);
        }
        due(x.laying(11, 2, 0, 0, -1), NONE);
        due(x.laying(100, 2, 0, 0, -1), NONE);
        due(x.laying(0, 0, 0, 0, -1), NONE);
        due(x.laying(123, 4, 0, 0, -1), NONE);
        due(x.laying(0, 1, -1, 0, -1), NONE);
        due(x.laying(0, 1, 480, 0, -1), NONE);
        due(x.laying(0, 1, 480480, 0, -1), NONE);
        due(x.laying(0, 1, 5004, 0, -1), NONE);
        due(x.laying(0, 1, 24, 0, -1), NONE);
        due(x.laying(0, 1, 23, 0, -1), 24 * 400);
        due(x.laying(0, 1, 0, -1, -1), NONE);
        due(x.laying(0, 1, 0, 101, -1), NONE);
        // In a flat sea each FLOOR that can be asked for is kept.
        due(x.laying(0, 1, 60060, 100, -1), 0);
        due(x.laying(0, 1, 60060, 101, -1), NONE);
        due(x.laying(0, 1, 60060, -1, -1), NONE);
        due(x.laying(0, 1, 0, 0, 1), NONE);
        due(x.laying(0, 1, 0, 0, -2), NONE);
    }

    void promise33LayingKeepsLanesAndRafts() {
        x.raft(20, 8);
        x.raft(20, 8);
        x.raft(20, 8);
        sea(0, 30, 10081);
        inForce("sink size = 20;", 8);
        x.place(11);
        x.place(22);
        x.place(33);
        x.lane(1, 0, 0);
        due(x.laying(0, 1, 0, 0, 0), 22);
        x.lay(1, 22, 5000);
        due(x.laying(0, 1, 0, 0, 0), 33);
        due(x.laying(0, 1, 0, 0, -1), 800);
        due(x.laying(1, 1, 0, 0, -1), NONE);
        due(x.laying(2, 2, 0, 0, -1), NONE);
        x.go(9);
        // DAY 1: column 1 is open again; the raft laid is SUNK, takes nothing, and keeps its place.
        due(x.told(1, 0), 2);
        due(x.laying(2, 2, 9009, 0, 0), 11);
        due(x.laying(2, 2, 9009, 0, 1), 33);
        due(x.laying(2, 2, 9009, 0, -1), 800);
    }

    /** Shadows go aside with the WAY; LEAK is as it is now. */
    void promise33LayingByWayAndLeak() {
        x.raft(20, 8);
        x.raft(20, 8);
        sea(0, 30, 10082);
        x.lay(0, 0, 5000);
        x.go(16);
        x.place(11);
        x.place(10);
        due(x.laying(1, 1, 16017, 0, -1), 2 * (396 + 400));
        due(x.laying(1, 1, 16017, 0, 0), 10);
        x.clear();
        x.place(11);
        due(x.laying(1, 1, 16017, 0, -1), 2 * (396 + 200));
    }

    void promise34Blame() {
        due(x.blame(0, 0), NONE);
        x.raft(20, 8);
        x.raft(20, 8);
        due(x.blame(0, 0), NONE);
        x.parts(0, 2);
        x.parts(2, 2);
        x.load(0, 0, 1);
        x.load(1, 2, 1);
        x.lay(0, 0, 500);
        // Each SPELL the middle chain has 300 of 500, and wears by 200: 84 SPELLS, 16800, above 16666.
        sea(0, 81, 20081);
        x.go(80);
        x.go(4);
        due(x.told(0, 21), 16800);
        due(x.blame(0, 1), NONE);
        x.reading(84, 30081);
        x.go(1);
        due(x.told(0, 31), 84);
        due(x.blame(0, 1), 2);
        due(x.blame(0, 0), NONE);
        due(x.blame(0, 3), NONE);
        due(x.blame(0, -1), NONE);
        due(x.blame(2, 0), NONE);
        due(x.blame(-1, 0), NONE);
        // As is KNOWN NOW it was above RATED.
        x.reading(84, 61081);
        due(x.blame(0, 1), 1);
        x.reading(85, 81);
        x.send(0, 0, 1, 1, 100);
        x.go(1);
        due(x.blame(0, 1), NONE);
        x.reading(86, 120081);
        x.go(1);
        due(x.blame(0, 1), 1);
        x.reading(86, 10081);
        due(x.blame(0, 1), 0);
        x.send(1, 0, 4, 1, 0);
        x.go(1);
        due(x.told(0, 0), 0);
        due(x.blame(0, 1), NONE);
    }

    /** 83 SPELLS wear it by 16600, not above 16666. */
    void promise34BlameOfTheMaker() {
        x.raft(20, 8);
        x.lay(0, 0, 500);
        sea(0, 81, 20081);
        x.go(80);
        x.go(3);
        x.reading(83, 30081);
        x.go(1);
        due(x.told(0, 21), 16600);
        due(x.blame(0, 1), 0);
    }

    void promise35Test() {
        due(x.test(-1, 0, true), NONE);
        due(x.test(0, 16, true), NONE);
        due(x.test(5, 4, true), NONE);
        due(x.count(8), 65535);
        due(x.test(0, 15, true), 65535);
        due(x.test(15, 15, false), 32767);
        due(x.test(4, 15, true), 32752);
        due(x.test(5, 13, false), 16400);
        due(x.count(8), 16400);
        for (int i = 5; i <= 20; i++) {
            due(x.test(0, 0, false), 16400);
        }
        due(x.test(4, 4, true), NONE);
        due(x.count(8), 16400);
    }

    void promise36Next() {
        due(x.next(), 7);
        x.test(8, 15, true);
        due(x.next(), 11);
        x.test(9, 14, false);
        due(x.next(), 8);
        x.test(8, 8, false);
        due(x.count(8), 32768);
        due(x.next(), NONE);
        x.test(15, 15, false);
        due(x.count(8), 0);
        due(x.next(), NONE);
    }

    /** With three SUSPECTS 5, 6 and 9 one or two are left; 0 .. 5 comes first. */
    void promise36NextOfThree() {
        x.test(5, 9, true);
        x.test(7, 8, false);
        due(x.count(8), 1 << 5 | 1 << 6 | 1 << 9);
        due(x.next(), 5);
    }

    void promise37Count() {
        for (int what : new int[] {-1, 11, 19, 23, MIN, MAX, MIN + 20, MIN + 22}) {
            due(x.count(what), NONE);
        }
        x.go(3);
        x.raft(5, 8);
        x.reading(0, 10081);
        x.reading(1, 10081);
        x.drift(0, 0, 1);
        x.sheet();
        x.lay(0, 0, 50);
        x.lane(0, 0, 0);
        x.lane(0, 0, 0);
        x.feed(0, 0, 0, 0, 0);
        x.test(0, 1, true);
        x.want(1, 1);
        x.place(0);
        x.place(1);
        x.place(2);
        x.parts(0, 4);
        x.parts(1, 5);
        x.parts(2, 6);
        int[] due = {3, 1, 2, 1, 1, 1, 2, 20, 3, 1, 3};
        for (int what = 0; what < due.length; what++) {
            due(x.count(what), due[what]);
        }
        due(x.count(20), 4);
        due(x.count(21), 5);
        due(x.count(22), 6);
    }
}
