import java.util.Arrays;

/**
 * Rafts that nod off a cape: what buoys tell of the swell, what the rafts take of it, what their chains bear, what is
 * paid, and what all that would have been by what is known later. The face only looks at what it is handed; the
 * classes inside do the work and trust what they get from it.
 */
public final class NoddingRafts {
    public static final int NONE = -1;
    public static final int VOID = -2147483648;

    private static final int SPELLS = 480;
    private static final int DAY = 8;
    private static final int DAYS = 60;
    private static final int COLUMNS = 10;
    private static final int ROWS = 5;
    private static final int RAFTS = 10;
    private static final int CHAINS = 3;
    private static final int HIGHEST = 120;

    private static final int SHORE = 0;
    private static final int AFLOAT = 1;
    private static final int SUNK = 2;
    private static final int LOOSE = 3;

    /** Kinds of THINGS; 0, 1 and 2 are a chain made new, so that a JOB's number is its THING's. */
    private static final int SEALING = 3;
    private static final int TOWING = 4;
    private static final int LAYING = 5;

    private static final int SINK = 0;
    private static final int RISE = 1;
    private static final int BOAT = 2;
    private static final int PAY = 3;
    private static final int CLAUSES = 4;

    private int now;
    private int base = 50000;
    private int rated = 60;
    private final Swell swell = new Swell();
    private final Text text = new Text();
    private final Rules rules = new Rules();
    private final Log log = new Log();
    private final Waves waves = new Waves(log);
    private final Course booked = new Course(log, rules, waves);
    private final Course anew = new Course(log, rules, waves);
    private int anewReadings;
    private int anewDrifts;
    private final Harbour harbour = new Harbour(log, rules, booked);
    private final Planner planner = new Planner(swell, rules);
    private final Ground ground = new Ground(swell, booked, waves);
    private final Cable cable = new Cable();

    public NoddingRafts() {
    }

    // ---- the swell

    public int reading(int spell, int what) {
        if (!isSpell(spell) || !isReading(what) || now >= SPELLS) {
            return NONE;
        }
        return swell.tellReading(now, spell, what);
    }

    public int drift(int from, int to, int by) {
        if (!isRange(from, to, SPELLS) || by < -30 || by > 30 || now >= SPELLS) {
            return NONE;
        }
        return swell.tellDrift(now, from, to, by);
    }

    public int known(int spell, int asOf, int what) {
        if (!isSpell(spell) || !isSpell(asOf)) {
            return VOID;
        }
        int sea = swell.look(spell, swell.readingsUpTo(asOf), swell.driftsUpTo(asOf));
        switch (what) {
            case 0:
                return heightOf(sea);
            case 1:
                return periodOf(sea);
            case 2:
                return wayOf(sea);
            default:
                return VOID;
        }
    }

    // ---- texts

    public int feed(int a, int b, int c, int d, int e) {
        if (!text.hasRoomFor(20)) {
            return NONE;
        }
        text.addNumber(a);
        text.addNumber(b);
        text.addNumber(c);
        text.addNumber(d);
        text.addNumber(e);
        return text.length;
    }

    public boolean end(int n) {
        if (n < 0 || n > text.length) {
            return false;
        }
        text.length = n;
        return true;
    }

    public int fault() {
        return text.findFault();
    }

    public int sheet() {
        if (!rules.hasRoomForSheet() || text.findFault() != NONE) {
            return NONE;
        }
        int number = rules.addSheet(text);
        text.length = 0;
        return number;
    }

    public int force(int sheet, int spell) {
        if (sheet < 0 || sheet >= rules.sheets || !isSpell(spell) || spell < now) {
            return NONE;
        }
        return rules.putInForce(sheet, spell);
    }

    public int why(int clause, int spell) {
        if (clause < 0 || clause >= CLAUSES || !isSpell(spell)) {
            return NONE;
        }
        return rules.ruling(clause, spell);
    }

    // ---- rafts and what they do

    public int raft(int size, int suit) {
        if (size < 1 || size > 20 || suit < 2 || suit > 20) {
            return NONE;
        }
        return log.addRaft(now, size, suit);
    }

    public int lane(int column, int from, int to) {
        if (!isColumn(column) || !isRange(from, to, DAYS)) {
            return NONE;
        }
        return ground.shut(column, from, to);
    }

    public int lay(int raft, int place, int strength) {
        if (!isRaft(raft) || !isPlace(place) || !isStrength(strength)) {
            return NONE;
        }
        // Behind the last SPELL there is none that a THING told NOW could be kept with.
        if (now >= SPELLS || !log.hasRoomForThing()) {
            return NONE;
        }
        if (!booked.isDoable(LAYING, raft, place) || ground.isShut(place / 10, now / DAY)) {
            return NONE;
        }
        log.addThing(now, LAYING, raft, place, strength);
        booked.doThings(now);
        return log.things;
    }

    public boolean base(int passes) {
        if (passes < 0 || passes > 288000) {
            return false;
        }
        base = passes;
        return true;
    }

    public boolean rated(int height) {
        if (height < 0 || height > HIGHEST) {
            return false;
        }
        rated = height;
        return true;
    }

    public int go(int n) {
        if (n < 0 || n > 80) {
            return NONE;
        }
        for (int i = 0; i < n && now < SPELLS; i++) {
            passNow();
        }
        return now;
    }

    public int told(int raft, int what) {
        if (!isRaft(raft)) {
            return NONE;
        }
        if (what >= 10) {
            return booked.ofChain(raft, what / 10, what % 10);
        }
        return booked.ofRaft(raft, what);
    }

    public int booked(int spell, int what) {
        if (!isOver(spell)) {
            return VOID;
        }
        return booked.ofSpell(spell, what);
    }

    // ---- what is known later

    public int right(int spell, int asOf, int what) {
        if (!isOver(spell) || !isSpell(asOf) || asOf < spell || asOf > now) {
            return VOID;
        }
        goAnew(spell, asOf);
        return anew.ofSpell(spell, what);
    }

    public int owed(int from, int to) {
        if (!isRange(from, to, now)) {
            return VOID;
        }
        goAnew(to, now);
        int sum = 0;
        for (int spell = from; spell <= to; spell++) {
            sum += anew.payOf[spell] - booked.payOf[spell];
        }
        return sum;
    }

    public int would(int raft, int what) {
        if (!isRaft(raft) || now == 0 || (what != 0 && what != 4 && what != 6)) {
            return NONE;
        }
        goAnew(now - 1, now);
        return anew.ofRaft(raft, what);
    }

    public int beach(int column, int from, int to, boolean high) {
        if (!isColumn(column) || !isRange(from, to, 201)) {
            return VOID;
        }
        int sum = 0;
        for (int spell = 0; spell < now; spell++) {
            int change = (base - booked.passesOf[spell * COLUMNS + column]) / 1000;
            // What is cut toward 0 still rises with what is cut, so that one end of the FACTORS is always the worst.
            int one = change * from / 100;
            int other = change * to / 100;
            sum += high ? Math.max(one, other) : Math.min(one, other);
        }
        return sum;
    }

    // ---- parts and boats

    public int parts(int part, int n) {
        if (part < 0 || part >= Harbour.PARTS || n < 1 || n > 20) {
            return NONE;
        }
        return harbour.bring(part, n);
    }

    public int load(int boat, int part, int n) {
        if (!isBoat(boat) || part < 0 || part >= Harbour.PARTS) {
            return NONE;
        }
        return harbour.shift(boat, part, n);
    }

    public int send(int boat, int raft, int job, int spells, int strength) {
        if (!isBoat(boat) || !isRaft(raft) || job < 0 || job > TOWING) {
            return NONE;
        }
        if (spells < 1 || spells > 8 || now + spells > SPELLS) {
            return NONE;
        }
        if (job < CHAINS ? !isStrength(strength) : strength != 0) {
            return NONE;
        }
        return harbour.goOut(boat, raft, job, now + spells - 1, strength);
    }

    public int boat(int boat, int what) {
        return isBoat(boat) ? harbour.ofBoat(boat, what) : NONE;
    }

    // ---- windows and plans

    public int want(int length, int worth) {
        if (length < 1 || length > 16 || worth < 1 || worth > 999) {
            return NONE;
        }
        return planner.addJob(length, worth);
    }

    public int forget() {
        int were = planner.jobs;
        planner.jobs = 0;
        return were;
    }

    public int window(int n, int k, int what) {
        if (n < 1 || n > Planner.FARTHEST) {
            return NONE;
        }
        planner.findWindows(now, n);
        return planner.ofWindow(k, what);
    }

    public int plan(int n, int job) {
        if (n < 1 || n > Planner.FARTHEST || job < NONE || job >= planner.jobs) {
            return NONE;
        }
        planner.findWindows(now, n);
        planner.choose();
        return job == NONE ? planner.bestWorth : planner.windowOf[job];
    }

    // ---- a laying

    public int place(int place) {
        return isPlace(place) ? ground.addPlace(place) : NONE;
    }

    public int clear() {
        int were = ground.places;
        ground.places = 0;
        return were;
    }

    public int laying(int rafts, int many, int spells, int floor, int k) {
        if (many < 1 || many > Ground.MOST_RAFTS || k < NONE || k >= many || floor < 0 || floor > 100) {
            return NONE;
        }
        if (spells < 0 || !isRange(spells / 1000, spells % 1000, SPELLS)) {
            return NONE;
        }
        if (!ground.chooseRafts(rafts, many) || !ground.chooseSpells(spells / 1000, spells % 1000)) {
            return NONE;
        }
        ground.search(floor, now / DAY);
        return k == NONE || ground.bestPower == NONE ? ground.bestPower : ground.bestPlace[k];
    }

    // ---- who pays, the cable, and what there is

    public int blame(int raft, int chain) {
        if (!isRaft(raft) || chain < 0 || chain >= CHAINS) {
            return NONE;
        }
        int spell = booked.broke[raft * CHAINS + chain];
        if (!isSpell(spell)) {
            return NONE;
        }
        if (heightOf(swell.lookNow(spell)) > rated) {
            return 1;
        }
        return booked.wear[raft * CHAINS + chain] > 100 * booked.strength[raft * CHAINS + chain] / 3 ? 2 : 0;
    }

    public int test(int a, int b, boolean dead) {
        return isRange(a, b, Cable.JOINTS) ? cable.tell(a, b, dead) : NONE;
    }

    public int next() {
        return cable.findNext();
    }

    public int count(int what) {
        switch (what) {
            case 0:
                return now;
            case 1:
                return log.rafts;
            case 2:
                return swell.readings;
            case 3:
                return swell.drifts;
            case 4:
                return rules.sheets;
            case 5:
                return log.things;
            case 6:
                return ground.lanes;
            case 7:
                return text.length;
            case 8:
                return cable.suspects;
            case 9:
                return planner.jobs;
            case 10:
                return ground.places;
            default:
                return harbour.onShore(what - 20);
        }
    }

    // ---- what the face needs itself

    private void passNow() {
        int sea = swell.lookNow(now);
        harbour.beginSpell(now, sea);
        booked.pass(now, sea);
        harbour.endSpell(now);
        now++;
    }

    /**
     * Takes the second course up to a SPELL that is over, by what was told up to another. SPELLS that are over change
     * by nothing but READINGS and DRIFTS, so that what was gone through by as many of them still holds.
     */
    private void goAnew(int spell, int asOf) {
        int readings = swell.readingsUpTo(asOf);
        int drifts = swell.driftsUpTo(asOf);
        if (readings != anewReadings || drifts != anewDrifts) {
            anew.forgetAll();
            anewReadings = readings;
            anewDrifts = drifts;
        }
        for (int t = anew.gone; t <= spell && t < SPELLS; t++) {
            anew.pass(t, swell.look(t, readings, drifts));
        }
    }

    private boolean isOver(int spell) {
        return spell >= 0 && spell < now;
    }

    private boolean isRaft(int raft) {
        return raft >= 0 && raft < log.rafts;
    }

    private static boolean isSpell(int spell) {
        return spell >= 0 && spell < SPELLS;
    }

    private static boolean isColumn(int column) {
        return column >= 0 && column < COLUMNS;
    }

    private static boolean isPlace(int place) {
        return place >= 0 && place < COLUMNS * 10 && place % 10 < ROWS;
    }

    private static boolean isStrength(int strength) {
        return strength >= 10 && strength <= 5000;
    }

    private static boolean isBoat(int boat) {
        return boat >= 0 && boat < Harbour.BOATS;
    }

    private static boolean isRange(int from, int to, int bound) {
        return from >= 0 && from <= to && to < bound;
    }

    private static boolean isReading(int what) {
        return what >= 0 && what / 1000 <= HIGHEST && what % 1000 / 10 >= 2 && what % 1000 / 10 <= 20 && what % 10 <= 2;
    }

    private static int heightOf(int sea) {
        return sea / 1000;
    }

    private static int periodOf(int sea) {
        return sea % 1000 / 10;
    }

    private static int wayOf(int sea) {
        return sea % 10 - 1;
    }

    private static int within(int least, int value, int most) {
        return Math.max(least, Math.min(value, most));
    }

    /** READINGS and DRIFTS in the order in which they were told; what is KNOWN goes by the first so many of them. */
    private static final class Swell {
        private static final int READINGS = 400;
        private static final int DRIFTS = 30;
        private static final int REACH = 8;
        /** HEIGHT 0, PERIOD 8, WAY 0 in the form of a READING, as all that is KNOWN is handed on. */
        private static final int CALM = 81;

        private int readings;
        private int drifts;
        /** The last READING of each SPELL, and of each READING the one of its SPELL told ahead of it. */
        private final int[] latest = new int[SPELLS];
        private final int[] earlier = new int[READINGS];
        private final int[] whats = new int[READINGS];
        private final int[] readingTold = new int[READINGS];
        private final int[] froms = new int[DRIFTS];
        private final int[] tos = new int[DRIFTS];
        private final int[] bys = new int[DRIFTS];
        private final int[] driftTold = new int[DRIFTS];

        private Swell() {
            Arrays.fill(latest, NONE);
        }

        private int tellReading(int now, int spell, int what) {
            if (readings >= READINGS) {
                return NONE;
            }
            whats[readings] = what;
            readingTold[readings] = now;
            earlier[readings] = latest[spell];
            latest[spell] = readings;
            readings++;
            return readings;
        }

        private int tellDrift(int now, int from, int to, int by) {
            if (drifts >= DRIFTS) {
                return NONE;
            }
            froms[drifts] = from;
            tos[drifts] = to;
            bys[drifts] = by;
            driftTold[drifts] = now;
            drifts++;
            return drifts;
        }

        private int readingsUpTo(int asOf) {
            return firstTold(readingTold, readings, asOf);
        }

        private int driftsUpTo(int asOf) {
            return firstTold(driftTold, drifts, asOf);
        }

        private static int firstTold(int[] told, int many, int asOf) {
            int first = many;
            while (first > 0 && told[first - 1] > asOf) {
                first--;
            }
            return first;
        }

        private int lookNow(int spell) {
            return look(spell, readings, drifts);
        }

        /** What is KNOWN for a SPELL by the first so many READINGS and DRIFTS, in the form of a READING. */
        private int look(int spell, int firstReadings, int firstDrifts) {
            for (int back = 0; back <= REACH && back <= spell; back++) {
                int found = readingFor(spell - back, firstReadings);
                if (found >= 0) {
                    return drifted(whats[found], spell - back, firstDrifts);
                }
            }
            return CALM;
        }

        private int readingFor(int spell, int first) {
            int found = latest[spell];
            for (int left = READINGS; left > 0 && found >= first; left--) {
                found = earlier[found];
            }
            return found;
        }

        private int drifted(int what, int spell, int first) {
            int height = heightOf(what);
            for (int i = 0; i < first; i++) {
                if (froms[i] <= spell && spell <= tos[i]) {
                    height += bys[i];
                }
            }
            return within(0, height, HIGHEST) * 1000 + what % 1000;
        }
    }

    /** The TEXT that is being told, and its turning into code in which values stand ahead of what is done to them. */
    private static final class Text {
        private static final int MOST_BYTES = 400;
        private static final int DEEPEST = 8;
        private static final int GREATEST = 99999;
        /** Code below this is a number; code from it on is this and the kind of a TOKEN. */
        private static final int DOING = 100000;

        private static final String SYMBOLS = "+-*/()[]<>=;";
        private static final int NUMBER = 256;
        private static final int END = 257;
        private static final int FAULTY = 258;
        /** A word's kind is this and its place among the words, which stand six bytes apart: CLAUSES come first. */
        private static final int WORD = 300;
        private static final int WIDTH = 6;
        private static final String WORDS =
            "sink  rise  boat  pay   heightperiodway   power hold  size  day   spell ready or    and   not   ";
        private static final int WORDS_MANY = 16;
        private static final int FIRST_NAME = WORD + 4;
        private static final int LAST_NAME = WORD + 12;
        private static final int OR = WORD + 13;
        private static final int AND = WORD + 14;
        private static final int NOT = WORD + 15;
        private static final int STRANGE_WORD = WORD + WORDS_MANY;

        private final byte[] bytes = new byte[MOST_BYTES];
        private int length;
        private int fault;
        /** TOKENS: kind, first byte, and value of a number; behind the last one stands END. */
        private final int[] kinds = new int[MOST_BYTES + 1];
        private final int[] starts = new int[MOST_BYTES + 1];
        private final int[] values = new int[MOST_BYTES + 1];
        private int tokens;
        /** The TOKEN that is looked at, and its kind. */
        private int token;
        private int kind;
        private final int[] code = new int[MOST_BYTES];
        private int codeLength;
        private final int[] clauseFrom = new int[CLAUSES];
        private final int[] clauseTo = new int[CLAUSES];

        private boolean hasRoomFor(int more) {
            return length + more <= MOST_BYTES;
        }

        private void addNumber(int number) {
            for (int shift = 24; shift >= 0 && length < MOST_BYTES; shift -= 8) {
                bytes[length] = (byte) (number >> shift);
                length++;
            }
        }

        /** The FAULT; without one, the code of the TEXT stands ready. */
        private int findFault() {
            fault = NONE;
            codeLength = 0;
            Arrays.fill(clauseFrom, NONE);
            Arrays.fill(clauseTo, NONE);
            readTokens();
            token = 0;
            kind = kinds[0];
            for (int i = 0; i < MOST_BYTES && fault == NONE && kind != END; i++) {
                readClause();
            }
            return fault;
        }

        private void readClause() {
            int clause = kind - WORD;
            if (clause < 0 || clause >= CLAUSES || clauseFrom[clause] != NONE) {
                refuse();
                return;
            }
            step();
            clauseFrom[clause] = codeLength;
            if (clause == PAY) {
                readSum(0);
            } else {
                readEither(0);
            }
            clauseTo[clause] = codeLength;
            need(';');
        }

        private void readEither(int depth) {
            readBoth(depth);
            for (int i = 0; i < MOST_BYTES && kind == OR; i++) {
                step();
                readBoth(depth);
                emit(DOING + OR);
            }
        }

        private void readBoth(int depth) {
            readTruth(depth);
            for (int i = 0; i < MOST_BYTES && kind == AND; i++) {
                step();
                readTruth(depth);
                emit(DOING + AND);
            }
        }

        /** What opens too deep is read as a sum, where it can't stand either and is refused. */
        private void readTruth(int depth) {
            if (kind == NOT && depth < DEEPEST) {
                step();
                readTruth(depth + 1);
                emit(DOING + NOT);
            } else if (kind == '[' && depth < DEEPEST) {
                step();
                readEither(depth + 1);
                need(']');
            } else {
                readSum(depth);
                int sign = kind;
                if (sign == '<' || sign == '>' || sign == '=') {
                    step();
                    readSum(depth);
                    emit(DOING + sign);
                } else {
                    refuse();
                }
            }
        }

        private void readSum(int depth) {
            readProduct(depth);
            for (int i = 0; i < MOST_BYTES && (kind == '+' || kind == '-'); i++) {
                int sign = kind;
                step();
                readProduct(depth);
                emit(DOING + sign);
            }
        }

        private void readProduct(int depth) {
            readFactor(depth);
            for (int i = 0; i < MOST_BYTES && (kind == '*' || kind == '/'); i++) {
                int sign = kind;
                step();
                readFactor(depth);
                emit(DOING + sign);
            }
        }

        private void readFactor(int depth) {
            if (kind == NUMBER && values[token] <= GREATEST) {
                emit(values[token]);
                step();
            } else if (kind >= FIRST_NAME && kind <= LAST_NAME) {
                emit(DOING + kind);
                step();
            } else if (kind == '(' && depth < DEEPEST) {
                step();
                readSum(depth + 1);
                need(')');
            } else {
                refuse();
            }
        }

        private void need(int wanted) {
            if (kind == wanted) {
                step();
            } else {
                refuse();
            }
        }

        /** Only the first FAULT counts; the TOKEN is made one that stands nowhere, so that all reading ends. */
        private void refuse() {
            if (fault == NONE) {
                fault = starts[token];
            }
            kind = FAULTY;
        }

        private void step() {
            if (fault == NONE && token < tokens) {
                token++;
                kind = kinds[token];
            }
        }

        private void emit(int what) {
            if (codeLength < code.length) {
                code[codeLength] = what;
                codeLength++;
            }
        }

        // ---- TOKENS

        private void readTokens() {
            tokens = 0;
            int behind = 0;
            for (int at = 0; at < length; at++) {
                if (at >= behind && bytes[at] != ' ') {
                    starts[tokens] = at;
                    behind = readToken(at);
                    tokens++;
                }
            }
            kinds[tokens] = END;
            starts[tokens] = length;
        }

        /** Reads the TOKEN that begins at a byte, or takes this byte alone for a faulty one; the place behind it. */
        private int readToken(int start) {
            if (isLetter(bytes[start])) {
                return readWord(start);
            }
            if (isDigit(bytes[start])) {
                return readNumber(start);
            }
            int sign = bytes[start] & 255;
            kinds[tokens] = SYMBOLS.indexOf((char) sign) >= 0 ? sign : FAULTY;
            return start + 1;
        }

        private int readWord(int start) {
            int end = start;
            while (end < length && isLetter(bytes[end])) {
                end++;
            }
            kinds[tokens] = STRANGE_WORD;
            for (int word = 0; word < WORDS_MANY; word++) {
                if (isWord(word, start, end)) {
                    kinds[tokens] = WORD + word;
                }
            }
            return end;
        }

        private boolean isWord(int word, int start, int end) {
            if (end - start > WIDTH) {
                return false;
            }
            for (int i = 0; i < WIDTH; i++) {
                int byteHere = start + i < end ? bytes[start + i] : ' ';
                if (WORDS.charAt(word * WIDTH + i) != byteHere) {
                    return false;
                }
            }
            return true;
        }

        private int readNumber(int start) {
            int end = start;
            int value = 0;
            while (end < length && isDigit(bytes[end])) {
                // Kept just above the greatest number, so that no row of digits wraps around.
                value = Math.min(value * 10 + bytes[end] - '0', GREATEST + 1);
                end++;
            }
            kinds[tokens] = NUMBER;
            values[tokens] = value;
            return end;
        }

        private static boolean isLetter(int sign) {
            return sign >= 'a' && sign <= 'z';
        }

        private static boolean isDigit(int sign) {
            return sign >= '0' && sign <= '9';
        }
    }

    /** SHEETS, which of them are IN FORCE, and what their CLAUSES say. */
    private static final class Rules {
        private static final int SHEETS = 10;
        private static final int FORCINGS = 15;
        private static final int MOST = 1000000;
        /** Two values at most wait in each of eight openings and outside them, and fewer than ten around these. */
        private static final int STACK = 64;

        private int sheets;
        private final int[][] codes = new int[SHEETS][];
        private final int[] clauseFrom = new int[SHEETS * CLAUSES];
        private final int[] clauseTo = new int[SHEETS * CLAUSES];
        private int forcings;
        private final int[] forcedSheet = new int[FORCINGS];
        private final int[] forcedSince = new int[FORCINGS];
        /** Values of the NAMES in the order of the words of a TEXT. */
        private final int[] names = new int[9];
        private final int[] stack = new int[STACK];
        private int top;

        private boolean hasRoomForSheet() {
            return sheets < SHEETS;
        }

        private int addSheet(Text text) {
            codes[sheets] = Arrays.copyOf(text.code, text.codeLength);
            for (int clause = 0; clause < CLAUSES; clause++) {
                clauseFrom[sheets * CLAUSES + clause] = text.clauseFrom[clause];
                clauseTo[sheets * CLAUSES + clause] = text.clauseTo[clause];
            }
            sheets++;
            return sheets - 1;
        }

        private int putInForce(int sheet, int spell) {
            if (forcings >= FORCINGS) {
                return NONE;
            }
            forcedSheet[forcings] = sheet;
            forcedSince[forcings] = spell;
            forcings++;
            return forcings;
        }

        private int ruling(int clause, int spell) {
            int best = NONE;
            int since = 0;
            for (int i = 0; i < forcings; i++) {
                boolean has = clauseFrom[forcedSheet[i] * CLAUSES + clause] != NONE;
                if (has && forcedSince[i] <= spell && forcedSince[i] >= since) {
                    best = forcedSheet[i];
                    since = forcedSince[i];
                }
            }
            return best;
        }

        private void nameSea(int spell, int sea) {
            names[0] = heightOf(sea);
            names[1] = periodOf(sea);
            names[2] = wayOf(sea) + 1;
            names[6] = spell / DAY;
            names[7] = spell % DAY;
        }

        private void nameRaft(int power, int hold, int size, int ready) {
            names[3] = power;
            names[4] = hold;
            names[5] = size;
            names[8] = ready;
        }

        private boolean letsBoatsOut(int spell, int sea) {
            int sheet = ruling(BOAT, spell);
            if (sheet == NONE) {
                return true;
            }
            nameSea(spell, sea);
            nameRaft(0, 0, 0, 0);
            return work(sheet, BOAT) != 0;
        }

        /** What a CLAUSE of a SHEET comes to by the NAMES; 0 without a SHEET. */
        private int work(int sheet, int clause) {
            if (sheet < 0 || sheet >= sheets || codes[sheet] == null) {
                return 0;
            }
            int[] code = codes[sheet];
            int to = Math.min(clauseTo[sheet * CLAUSES + clause], code.length);
            top = 0;
            for (int i = Math.max(clauseFrom[sheet * CLAUSES + clause], 0); i < to; i++) {
                int kind = code[i] - Text.DOING;
                if (kind < 0) {
                    push(code[i]);
                } else if (kind >= Text.FIRST_NAME && kind <= Text.LAST_NAME) {
                    push(names[kind - Text.FIRST_NAME]);
                } else if (kind == Text.NOT && top >= 1) {
                    stack[top - 1] = 1 - stack[top - 1];
                } else if (top >= 2) {
                    top--;
                    stack[top - 1] = join(kind, stack[top - 1], stack[top]);
                }
            }
            return top > 0 ? stack[top - 1] : 0;
        }

        private void push(int value) {
            if (top < STACK) {
                stack[top] = value;
                top++;
            }
        }

        private static int join(int kind, int a, int b) {
            switch (kind) {
                case '+':
                    return Math.max(-MOST, Math.min(a + b, MOST));
                case '-':
                    return Math.max(-MOST, Math.min(a - b, MOST));
                case '*':
                    return (int) Math.max(-MOST, Math.min((long) a * b, MOST));
                case '/':
                    return b == 0 ? 0 : a / b;
                case '<':
                    return a < b ? 1 : 0;
                case '>':
                    return a > b ? 1 : 0;
                case '=':
                    return a == b ? 1 : 0;
                case Text.AND:
                    return a & b;
                case Text.OR:
                    return a | b;
                default:
                    return 0;
            }
        }
    }

    /** Rafts as they came and THINGS as they were told: what every course goes by. */
    private static final class Log {
        private static final int THINGS = 200;

        private int rafts;
        private final int[] size = new int[RAFTS];
        private final int[] suit = new int[RAFTS];
        private final int[] came = new int[RAFTS];
        private int things;
        private final int[] spellOf = new int[THINGS];
        private final int[] kindOf = new int[THINGS];
        private final int[] raftOf = new int[THINGS];
        private final int[] placeOf = new int[THINGS];
        private final int[] strengthOf = new int[THINGS];

        private int addRaft(int now, int itsSize, int itsSuit) {
            if (rafts >= RAFTS) {
                return NONE;
            }
            size[rafts] = itsSize;
            suit[rafts] = itsSuit;
            came[rafts] = now;
            rafts++;
            return rafts - 1;
        }

        private boolean hasRoomForThing() {
            return things < THINGS;
        }

        private void addThing(int spell, int kind, int raft, int place, int strength) {
            if (things < THINGS) {
                spellOf[things] = spell;
                kindOf[things] = kind;
                raftOf[things] = raft;
                placeOf[things] = place;
                strengthOf[things] = strength;
                things++;
            }
        }
    }

    /** Waves that go row by row through the rafts that are put into them. */
    private static final class Waves {
        private final Log log;
        /** The raft at each place; NONE. */
        private final int[] raftAt = new int[COLUMNS * 10];
        private final int[] taken = new int[RAFTS];
        /** What each COLUMN has; behind the last ROW, what PASSES. */
        private int[] flow = new int[COLUMNS];
        private int[] onward = new int[COLUMNS];

        private Waves(Log log) {
            this.log = log;
        }

        private void takeAllOut() {
            Arrays.fill(raftAt, NONE);
        }

        private void putIn(int raft, int place) {
            if (isPlace(place)) {
                raftAt[place] = raft;
            }
        }

        private static int openSea(int sea) {
            return heightOf(sea) * heightOf(sea) * periodOf(sea);
        }

        private void run(int sea) {
            int open = openSea(sea);
            Arrays.fill(taken, 0);
            Arrays.fill(flow, open);
            for (int row = 0; row < ROWS; row++) {
                if (row > 0) {
                    goAside(wayOf(sea), open);
                }
                for (int column = 0; column < COLUMNS; column++) {
                    int raft = raftAt[column * 10 + row];
                    if (raft >= 0) {
                        take(raft, column, periodOf(sea));
                    }
                }
            }
        }

        private void take(int raft, int column, int period) {
            int fit = Math.max(0, 100 - 15 * Math.abs(period - log.suit[raft]));
            int suited = flow[column] * fit / 100;
            taken[raft] = suited * log.size[raft] / (log.size[raft] + 20);
            flow[column] -= taken[raft];
        }

        private void goAside(int way, int open) {
            for (int column = 0; column < COLUMNS; column++) {
                int from = column - way;
                onward[column] = isColumn(from) ? flow[from] : open;
            }
            int[] spare = flow;
            flow = onward;
            onward = spare;
        }
    }

    /** All SPELLS gone through one after the other, and how the rafts are behind the last of them. */
    private static final class Course {
        /** Weights of the chains with WAY -1, 0 and 1. */
        private static final int[] WEIGHTS = {1, 2, 3, 1, 3, 1, 3, 2, 1};

        private final Log log;
        private final Rules rules;
        private final Waves waves;
        private int gone;
        private int thingsSeen;
        private final int[] state = new int[RAFTS];
        private final int[] place = new int[RAFTS];
        private final int[] took = new int[RAFTS];
        private final int[] power = new int[RAFTS];
        private final int[] allPower = new int[RAFTS];
        private final int[] strength = new int[RAFTS * CHAINS];
        private final int[] wear = new int[RAFTS * CHAINS];
        private final int[] broke = new int[RAFTS * CHAINS];
        private final int[] borne = new int[CHAINS];
        private final int[] powerOf = new int[SPELLS];
        private final int[] payOf = new int[SPELLS];
        private final int[] passesOf = new int[SPELLS * COLUMNS];

        private Course(Log log, Rules rules, Waves waves) {
            this.log = log;
            this.rules = rules;
            this.waves = waves;
            Arrays.fill(place, NONE);
            Arrays.fill(broke, NONE);
        }

        private void forgetAll() {
            gone = 0;
            thingsSeen = 0;
            Arrays.fill(took, 0);
            Arrays.fill(power, 0);
            Arrays.fill(allPower, 0);
            for (int raft = 0; raft < RAFTS; raft++) {
                bringHome(raft);
            }
        }

        // ---- THINGS

        private boolean isFree(int where) {
            for (int raft = 0; raft < RAFTS; raft++) {
                if (place[raft] == where) {
                    return false;
                }
            }
            return true;
        }

        private boolean isReady(int raft) {
            return state[raft] == AFLOAT || state[raft] == SUNK;
        }

        private boolean isDoable(int kind, int raft, int where) {
            if (kind == LAYING) {
                return state[raft] == SHORE && isFree(where);
            }
            return kind == TOWING ? state[raft] != SHORE : isReady(raft);
        }

        /** Does what was told up to a SPELL and was not yet done, so far as it can be done here. */
        private void doThings(int spell) {
            while (thingsSeen < log.things && log.spellOf[thingsSeen] <= spell) {
                int i = thingsSeen;
                if (isDoable(log.kindOf[i], log.raftOf[i], log.placeOf[i])) {
                    doThing(log.kindOf[i], log.raftOf[i], log.placeOf[i], log.strengthOf[i]);
                }
                thingsSeen++;
            }
        }

        private void doThing(int kind, int raft, int where, int ofStrength) {
            if (kind == LAYING) {
                state[raft] = AFLOAT;
                place[raft] = where;
                for (int chain = 0; chain < CHAINS; chain++) {
                    renewChain(raft, chain, ofStrength);
                }
            } else if (kind == TOWING) {
                bringHome(raft);
            } else if (kind == SEALING) {
                took[raft] = 0;
            } else {
                renewChain(raft, kind, ofStrength);
            }
        }

        private void bringHome(int raft) {
            state[raft] = SHORE;
            place[raft] = NONE;
            for (int chain = 0; chain < CHAINS; chain++) {
                renewChain(raft, chain, 0);
            }
        }

        /** A STRENGTH of 0 stands for no chain. */
        private void renewChain(int raft, int chain, int ofStrength) {
            strength[raft * CHAINS + chain] = ofStrength;
            wear[raft * CHAINS + chain] = 0;
            broke[raft * CHAINS + chain] = NONE;
        }

        // ---- a SPELL

        private void pass(int spell, int sea) {
            doThings(spell);
            rules.nameSea(spell, sea);
            sinkAndRise(spell);
            takeWaves(spell, sea);
            strainChains(spell, sea);
            bookPay(spell);
            gone = spell + 1;
        }

        private void sinkAndRise(int spell) {
            int sink = rules.ruling(SINK, spell);
            int rise = rules.ruling(RISE, spell);
            for (int raft = 0; raft < log.rafts; raft++) {
                if (state[raft] == AFLOAT) {
                    state[raft] = says(sink, SINK, raft) != 0 ? SUNK : AFLOAT;
                } else if (state[raft] == SUNK) {
                    state[raft] = says(rise, RISE, raft) != 0 ? AFLOAT : SUNK;
                }
            }
        }

        private int says(int sheet, int clause, int raft) {
            if (sheet == NONE) {
                return 0;
            }
            rules.nameRaft(power[raft], leastHold(raft), log.size[raft], isReady(raft) ? 1 : 0);
            return rules.work(sheet, clause);
        }

        private void putInto(Waves sea) {
            sea.takeAllOut();
            for (int raft = 0; raft < log.rafts; raft++) {
                if (state[raft] == AFLOAT) {
                    sea.putIn(raft, place[raft]);
                }
            }
        }

        private void takeWaves(int spell, int sea) {
            putInto(waves);
            waves.run(sea);
            powerOf[spell] = 0;
            for (int raft = 0; raft < log.rafts; raft++) {
                // LEAK is that of the SPELLS ahead: this one is counted behind its POWER.
                power[raft] = powerFrom(waves.taken[raft], raft);
                took[raft] += waves.taken[raft] > 0 ? 1 : 0;
                allPower[raft] += power[raft];
                powerOf[spell] += power[raft];
            }
            System.arraycopy(waves.flow, 0, passesOf, spell * COLUMNS, COLUMNS);
        }

        private int leak(int raft) {
            return Math.min(100, took[raft] / 16);
        }

        private int powerFrom(int taken, int raft) {
            return taken * (100 - leak(raft)) / 100;
        }

        private void strainChains(int spell, int sea) {
            for (int raft = 0; raft < log.rafts; raft++) {
                if (state[raft] == AFLOAT) {
                    shareLoad(raft, heightOf(sea) * (log.size[raft] + 5), wayOf(sea));
                    for (int chain = 0; chain < CHAINS; chain++) {
                        strain(raft * CHAINS + chain, borne[chain], spell);
                    }
                    if (holdBits(raft) == 0) {
                        state[raft] = LOOSE;
                        place[raft] = NONE;
                    }
                }
            }
        }

        /** What each chain has to bear, before any of them breaks. */
        private void shareLoad(int raft, int load, int way) {
            int all = 0;
            for (int chain = 0; chain < CHAINS; chain++) {
                all += weight(raft, chain, way);
            }
            for (int chain = 0; chain < CHAINS; chain++) {
                borne[chain] = all == 0 ? 0 : load * weight(raft, chain, way) / all;
            }
        }

        private int weight(int raft, int chain, int way) {
            return holds(raft * CHAINS + chain) ? WEIGHTS[(way + 1) * CHAINS + chain] : 0;
        }

        private void strain(int chain, int load, int spell) {
            if (!holds(chain)) {
                return;
            }
            if (load > hold(chain)) {
                broke[chain] = spell;
            } else {
                wear[chain] += Math.max(0, load - 100);
            }
        }

        private boolean holds(int chain) {
            return strength[chain] > 0 && broke[chain] == NONE;
        }

        private int hold(int chain) {
            return strength[chain] - wear[chain] / 100;
        }

        private int leastHold(int raft) {
            int least = NONE;
            for (int chain = raft * CHAINS; chain < raft * CHAINS + CHAINS; chain++) {
                if (holds(chain) && (least == NONE || hold(chain) < least)) {
                    least = hold(chain);
                }
            }
            return Math.max(least, 0);
        }

        private int holdBits(int raft) {
            int bits = 0;
            for (int chain = 0; chain < CHAINS; chain++) {
                bits |= holds(raft * CHAINS + chain) ? 1 << chain : 0;
            }
            return bits;
        }

        private void bookPay(int spell) {
            int sheet = rules.ruling(PAY, spell);
            payOf[spell] = 0;
            for (int raft = 0; raft < log.rafts; raft++) {
                if (log.came[raft] <= spell) {
                    payOf[spell] += within(-100000, says(sheet, PAY, raft), 100000);
                }
            }
        }

        // ---- what is asked

        private int ofSpell(int spell, int what) {
            if (what == 0) {
                return powerOf[spell];
            }
            if (what == 1) {
                return payOf[spell];
            }
            return what >= 10 && what < 10 + COLUMNS ? passesOf[spell * COLUMNS + what - 10] : VOID;
        }

        private int ofRaft(int raft, int what) {
            switch (what) {
                case 0:
                    return state[raft];
                case 1:
                    return place[raft];
                case 2:
                    return log.size[raft];
                case 3:
                    return log.suit[raft];
                case 4:
                    return leak(raft);
                case 5:
                    return power[raft];
                case 6:
                    return holdBits(raft);
                case 7:
                    return allPower[raft];
                default:
                    return NONE;
            }
        }

        private int ofChain(int raft, int what, int chain) {
            if (chain >= CHAINS) {
                return NONE;
            }
            switch (what) {
                case 1:
                    return strength[raft * CHAINS + chain];
                case 2:
                    return wear[raft * CHAINS + chain];
                case 3:
                    return broke[raft * CHAINS + chain];
                default:
                    return NONE;
            }
        }
    }

    /** PARTS on shore and on BOATS, and the BOATS' trips. */
    private static final class Harbour {
        private static final int BOATS = 3;
        private static final int PARTS = 3;
        private static final int ROPES = 2;
        private static final int MOST_ABOARD = 9;
        private static final int MOST_ON_SHORE = 99;

        private final Log log;
        private final Rules rules;
        private final Course course;
        private final int[] shore = new int[PARTS];
        private final int[] aboard = new int[BOATS * PARTS];
        /** The last SPELL of the trip; NONE in port. */
        private final int[] lastSpell = new int[BOATS];
        private final int[] raftOf = new int[BOATS];
        private final int[] jobOf = new int[BOATS];
        private final int[] strengthOf = new int[BOATS];
        private final int[] done = new int[BOATS];
        private final int[] failed = new int[BOATS];

        private Harbour(Log log, Rules rules, Course course) {
            this.log = log;
            this.rules = rules;
            this.course = course;
            Arrays.fill(lastSpell, NONE);
        }

        private int onShore(int part) {
            return part >= 0 && part < PARTS ? shore[part] : NONE;
        }

        private int bring(int part, int n) {
            if (shore[part] + n > MOST_ON_SHORE) {
                return NONE;
            }
            shore[part] += n;
            return shore[part];
        }

        private int shift(int boat, int part, int n) {
            int has = aboard[boat * PARTS + part];
            boolean fitsBoat = n >= -has && n <= MOST_ABOARD - has;
            boolean fitsShore = n <= shore[part] && n >= shore[part] - MOST_ON_SHORE;
            if (lastSpell[boat] != NONE || !fitsBoat || !fitsShore) {
                return NONE;
            }
            aboard[boat * PARTS + part] += n;
            shore[part] -= n;
            return has + n;
        }

        private static int partFor(int job) {
            return job < CHAINS ? 0 : job == SEALING ? 1 : ROPES;
        }

        private int goOut(int boat, int raft, int job, int last, int strength) {
            if (lastSpell[boat] != NONE || aboard[boat * PARTS + partFor(job)] == 0) {
                return NONE;
            }
            lastSpell[boat] = last;
            raftOf[boat] = raft;
            jobOf[boat] = job;
            strengthOf[boat] = strength;
            return last;
        }

        private void beginSpell(int spell, int sea) {
            if (rules.letsBoatsOut(spell, sea)) {
                return;
            }
            for (int boat = 0; boat < BOATS; boat++) {
                if (lastSpell[boat] != NONE) {
                    failed[boat]++;
                    lastSpell[boat] = NONE;
                }
            }
        }

        private void endSpell(int spell) {
            for (int boat = 0; boat < BOATS; boat++) {
                if (lastSpell[boat] == spell) {
                    endTrip(boat, spell + 1);
                    lastSpell[boat] = NONE;
                }
            }
        }

        private void endTrip(int boat, int behind) {
            if (!log.hasRoomForThing() || !course.isDoable(jobOf[boat], raftOf[boat], NONE)) {
                failed[boat]++;
                return;
            }
            log.addThing(behind, jobOf[boat], raftOf[boat], NONE, strengthOf[boat]);
            course.doThings(behind);
            done[boat]++;
            int part = partFor(jobOf[boat]);
            if (part != ROPES) {
                aboard[boat * PARTS + part]--;
            }
        }

        private int ofBoat(int boat, int what) {
            switch (what) {
                case 0:
                    return lastSpell[boat] == NONE ? 1 : 0;
                case 1:
                case 2:
                case 3:
                    return aboard[boat * PARTS + what - 1];
                case 4:
                    return done[boat];
                case 5:
                    return failed[boat];
                default:
                    return NONE;
            }
        }
    }

    /** JOBS wanted, WINDOWS, and the PLAN that puts the ones into the others. */
    private static final class Planner {
        private static final int FARTHEST = 40;
        private static final int JOBS = 6;

        private final Swell swell;
        private final Rules rules;
        private int jobs;
        private final int[] length = new int[JOBS];
        private final int[] worth = new int[JOBS];
        private int windows;
        private final int[] first = new int[FARTHEST];
        private final int[] span = new int[FARTHEST];
        /** What is left of each WINDOW. */
        private final int[] room = new int[FARTHEST];
        /** Of each set of JOBS (bits): all length, all worth, and 1 if it goes into the room that is left. */
        private final int[] setLength = new int[1 << JOBS];
        private final int[] setWorth = new int[1 << JOBS];
        private final int[] goesIn = new int[1 << JOBS];
        private int bestWorth;
        private int bestLength;
        private final int[] windowOf = new int[JOBS];

        private Planner(Swell swell, Rules rules) {
            this.swell = swell;
            this.rules = rules;
        }

        private int addJob(int itsLength, int itsWorth) {
            if (jobs >= JOBS) {
                return NONE;
            }
            length[jobs] = itsLength;
            worth[jobs] = itsWorth;
            jobs++;
            return jobs;
        }

        private void findWindows(int now, int n) {
            windows = 0;
            boolean running = false;
            for (int spell = now; spell < now + n && spell < SPELLS; spell++) {
                boolean out = rules.letsBoatsOut(spell, swell.lookNow(spell));
                if (out && !running && windows < FARTHEST) {
                    first[windows] = spell;
                    span[windows] = 0;
                    windows++;
                }
                if (out && windows > 0) {
                    span[windows - 1]++;
                }
                running = out;
            }
        }

        private int ofWindow(int k, int what) {
            if (k < 0 || k >= windows) {
                return NONE;
            }
            return what == 0 ? first[k] : what == 1 ? span[k] : NONE;
        }

        /** Finds what the best PLAN comes to, then gives each JOB the earliest WINDOW that still leads to as much. */
        private void choose() {
            System.arraycopy(span, 0, room, 0, windows);
            measureSets();
            findBest();
            int worthLeft = bestWorth;
            int lengthLeft = bestLength;
            for (int job = 0; job < jobs; job++) {
                windowOf[job] = windowFor(job, worthLeft - worth[job], lengthLeft - length[job]);
                if (windowOf[job] != NONE) {
                    room[windowOf[job]] -= length[job];
                    worthLeft -= worth[job];
                    lengthLeft -= length[job];
                }
            }
        }

        private void measureSets() {
            for (int job = 0; job < jobs; job++) {
                for (int set = 0; set < 1 << job; set++) {
                    setLength[set | 1 << job] = setLength[set] + length[job];
                    setWorth[set | 1 << job] = setWorth[set] + worth[job];
                }
            }
        }

        private void findBest() {
            packFrom(0);
            bestWorth = 0;
            bestLength = 0;
            for (int set = 1; set < 1 << jobs; set++) {
                boolean better = setWorth[set] > bestWorth || setWorth[set] == bestWorth && setLength[set] < bestLength;
                if (goesIn[set] == 1 && better) {
                    bestWorth = setWorth[set];
                    bestLength = setLength[set];
                }
            }
        }

        private int windowFor(int job, int worthBehind, int lengthBehind) {
            for (int window = 0; window < windows; window++) {
                if (room[window] >= length[job]) {
                    room[window] -= length[job];
                    boolean leads = comesTo(job + 1, worthBehind, lengthBehind);
                    room[window] += length[job];
                    if (leads) {
                        return window;
                    }
                }
            }
            return NONE;
        }

        /** Whether some of the JOBS from one on come to just that in the room that is left. */
        private boolean comesTo(int job, int wantedWorth, int wantedLength) {
            if (wantedWorth < 0 || wantedLength < 0) {
                return false;
            }
            packFrom(job);
            for (int set = 0; set < 1 << jobs; set += 1 << job) {
                if (goesIn[set] == 1 && setWorth[set] == wantedWorth && setLength[set] == wantedLength) {
                    return true;
                }
            }
            return false;
        }

        /** Marks the sets of JOBS from one on that go into the room that is left. */
        private void packFrom(int job) {
            Arrays.fill(goesIn, 0);
            goesIn[0] = 1;
            for (int window = 0; window < windows; window++) {
                // Greater sets first, so that a set's parts are still marked by the windows ahead alone.
                for (int set = (1 << jobs) - (1 << job); set > 0; set -= 1 << job) {
                    if (goesIn[set] == 0 && goesInWith(set, room[window])) {
                        goesIn[set] = 1;
                    }
                }
            }
        }

        private boolean goesInWith(int set, int windowRoom) {
            for (int part = set; part > 0; part = part - 1 & set) {
                if (setLength[part] <= windowRoom && goesIn[set ^ part] == 1) {
                    return true;
                }
            }
            return false;
        }
    }

    /** LANES, the places told for a LAYING, and the search for the best one. */
    private static final class Ground {
        private static final int LANES = 10;
        private static final int PLACES = 8;
        private static final int MOST_RAFTS = 3;
        private static final int MOST_SPELLS = 24;

        private final Swell swell;
        private final Course course;
        private final Waves waves;
        private int lanes;
        private final int[] laneColumn = new int[LANES];
        private final int[] laneFrom = new int[LANES];
        private final int[] laneTo = new int[LANES];
        private int places;
        private final int[] placeTold = new int[PLACES];
        private int chosen;
        private final int[] chosenRaft = new int[MOST_RAFTS];
        private int seas;
        private final int[] sea = new int[MOST_SPELLS];
        /** Which place told each raft has in the trial that runs. */
        private final int[] trial = new int[MOST_RAFTS];
        private int bestPower;
        private final int[] bestPlace = new int[MOST_RAFTS];

        private Ground(Swell swell, Course course, Waves waves) {
            this.swell = swell;
            this.course = course;
            this.waves = waves;
        }

        private int shut(int column, int from, int to) {
            if (lanes >= LANES) {
                return NONE;
            }
            laneColumn[lanes] = column;
            laneFrom[lanes] = from;
            laneTo[lanes] = to;
            lanes++;
            return lanes;
        }

        private boolean isShut(int column, int day) {
            for (int i = 0; i < lanes; i++) {
                if (laneColumn[i] == column && laneFrom[i] <= day && day <= laneTo[i]) {
                    return true;
                }
            }
            return false;
        }

        private int addPlace(int place) {
            for (int i = 0; i < places; i++) {
                if (placeTold[i] == place) {
                    return NONE;
                }
            }
            if (places >= PLACES) {
                return NONE;
            }
            placeTold[places] = place;
            places++;
            return places;
        }

        /** Takes the rafts from their digits; false if they aren't so many different ones ON SHORE. */
        private boolean chooseRafts(int digits, int many) {
            int left = digits;
            int seen = 0;
            chosen = Math.min(many, MOST_RAFTS);
            for (int i = chosen - 1; i >= 0; i--) {
                int raft = left % 10;
                if (left < 0 || raft >= course.log.rafts || course.state[raft] != SHORE || (seen >> raft & 1) != 0) {
                    return false;
                }
                chosenRaft[i] = raft;
                seen |= 1 << raft;
                left /= 10;
            }
            return left == 0;
        }

        private boolean chooseSpells(int from, int to) {
            seas = to - from + 1;
            if (seas > MOST_SPELLS) {
                return false;
            }
            for (int i = 0; i < seas; i++) {
                sea[i] = swell.lookNow(from + i);
            }
            return true;
        }

        /** Trials go from the earliest places told to the last ones, so that only a better one takes over. */
        private void search(int floor, int day) {
            int trials = 1;
            for (int i = 0; i < chosen; i++) {
                trials *= places;
            }
            bestPower = NONE;
            for (int number = 0; number < trials; number++) {
                int power = setTrial(number) && isOpen(day) ? tryOut(floor) : NONE;
                if (power > bestPower) {
                    bestPower = power;
                    for (int i = 0; i < chosen; i++) {
                        bestPlace[i] = placeTold[trial[i]];
                    }
                }
            }
        }

        /** Sets the places of a trial by its number; false if one of them would be had twice. */
        private boolean setTrial(int number) {
            int left = number;
            int seen = 0;
            for (int i = chosen - 1; i >= 0; i--) {
                trial[i] = places == 0 ? 0 : left % places;
                left = places == 0 ? 0 : left / places;
                if ((seen >> trial[i] & 1) != 0) {
                    return false;
                }
                seen |= 1 << trial[i];
            }
            return true;
        }

        private boolean isOpen(int day) {
            for (int i = 0; i < chosen; i++) {
                int place = placeTold[trial[i]];
                if (isShut(place / 10, day) || !course.isFree(place)) {
                    return false;
                }
            }
            return true;
        }

        /** All POWER of a trial; NONE if the beach gets too little. */
        private int tryOut(int floor) {
            course.putInto(waves);
            for (int i = 0; i < chosen; i++) {
                waves.putIn(chosenRaft[i], placeTold[trial[i]]);
            }
            int power = 0;
            for (int i = 0; i < seas; i++) {
                waves.run(sea[i]);
                if (!keepsBeach(floor, Waves.openSea(sea[i]))) {
                    return NONE;
                }
                for (int raft = 0; raft < course.log.rafts; raft++) {
                    power += course.powerFrom(waves.taken[raft], raft);
                }
            }
            return power;
        }

        private boolean keepsBeach(int floor, int open) {
            for (int column = 0; column < COLUMNS; column++) {
                if (100 * waves.flow[column] < floor * open) {
                    return false;
                }
            }
            return true;
        }
    }

    /** TESTS of the cable, and the JOINTS that may still be the bad one. */
    private static final class Cable {
        private static final int JOINTS = 16;
        private static final int TESTS = 20;

        private int tests;
        private int suspects = (1 << JOINTS) - 1;

        private static int bits(int a, int b) {
            return (1 << b + 1) - (1 << a);
        }

        private int tell(int a, int b, boolean dead) {
            if (tests >= TESTS) {
                return NONE;
            }
            tests++;
            suspects &= dead ? bits(a, b) : ~bits(a, b);
            return suspects;
        }

        private int findNext() {
            int all = Integer.bitCount(suspects);
            if (all < 2) {
                return NONE;
            }
            int best = NONE;
            int fewest = JOINTS + 1;
            for (int a = 0; a < JOINTS; a++) {
                for (int b = a; b < JOINTS; b++) {
                    int inside = Integer.bitCount(suspects & bits(a, b));
                    int worse = Math.max(inside, all - inside);
                    if (worse < fewest) {
                        fewest = worse;
                        best = a * 100 + b;
                    }
                }
            }
            return best;
        }
    }
}
