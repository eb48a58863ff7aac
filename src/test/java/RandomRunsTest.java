import java.util.ArrayList;
import java.util.List;
import java.util.Random;

/**
 * Random runs of calls, each answer held against a plain model that goes through everything from the start for every
 * question: no state is kept but what was told. Seeds are fixed, so that a run that fails fails again.
 */
public final class RandomRunsTest {
    private static final int NONE = -1;
    private static final int VOID = Integer.MIN_VALUE;
    private static int wrong = 0;
    private static long checked = 0;

    public static void main(String[] args) {
        int runs = args.length > 0 ? Integer.parseInt(args[0]) : 1000;
        for (int seed = 1; seed <= runs && wrong < 10; seed++) {
            new Run(seed).go();
        }
        System.out.println(checked + " answers, " + wrong + " wrong");
        if (wrong != 0) {
            System.exit(1);
        }
    }

    private static final class Run {
        final Random random;
        final int seed;
        final Model m = new Model();
        final NoddingRafts x = new NoddingRafts();
        final StringBuilder trace = new StringBuilder();
        final int bigness;
        int made = 0;

        Run(int seed) {
            this.seed = seed;
            random = new Random(seed);
            bigness = random.nextInt(4);
        }

        int pick(int from, int to) {
            long many = (long) to - from + 1;
            return many < 1 || many > Integer.MAX_VALUE ? from : from + random.nextInt((int) many);
        }

        /** Mostly within, sometimes just outside, seldom far outside. */
        int near(int from, int to) {
            int dice = random.nextInt(60);
            if (dice == 0) {
                return from - 1;
            }
            if (dice == 1) {
                return to + 1;
            }
            if (dice == 2) {
                int[] odd = {Integer.MIN_VALUE, Integer.MAX_VALUE, -1, 0, 1, -1000, 1000000};
                return odd[random.nextInt(odd.length)];
            }
            return pick(from, to);
        }

        void due(String call, long got, long want) {
            checked++;
            made++;
            trace.append(call).append(" -> ").append(got).append('\n');
            if (got != want) {
                wrong++;
                String all = trace.toString();
                System.out.println("seed " + seed + ":\n" + all.substring(Math.max(0, all.length() - 6000))
                    + "    due is " + want);
            }
        }

        int reading() {
            return near(0, 120) * 1000 + near(2, 20) * 10 + near(0, 2);
        }

        int calmReading() {
            return pick(0, 30) * 1000 + pick(4, 12) * 10 + pick(0, 2);
        }

        void go() {
            int calls = pick(40, 500);
            int rafts = pick(1, 10);
            for (int i = 0; i < rafts; i++) {
                int size = pick(1, 20);
                int suit = pick(4, 12);
                due("raft(" + size + "," + suit + ")", x.raft(size, suit), m.raft(size, suit));
            }
            if (seed % 10 == 0) {
                goLate();
            }
            // Behind its 512th call an object's answers are free.
            for (int i = 0; i < calls && made < 480 && wrong < 10; i++) {
                call();
            }
        }

        /** So that some runs come to the last SPELL and go on behind it. */
        void goLate() {
            for (int i = 0; i < 6; i++) {
                int n = i < 5 ? 80 : pick(40, 80);
                due("go(" + n + ")", x.go(n), m.go(n));
            }
        }

        void call() {
            switch (random.nextInt(48)) {
                case 0: case 1: case 2: {
                    int spell = random.nextInt(4) > 0 ? near(Math.max(0, m.now - 10), Math.min(479, m.now + 20))
                        : near(0, 479);
                    int what = random.nextInt(3) == 0 ? reading() : calmReading();
                    due("reading(" + spell + "," + what + ")", x.reading(spell, what), m.reading(spell, what));
                    break;
                }
                case 3: {
                    int from = near(Math.max(0, m.now - 20), Math.min(479, m.now + 10));
                    int to = random.nextInt(8) == 0 ? near(0, 479) : from + random.nextInt(20);
                    int by = near(-30, 30);
                    due("drift(" + from + "," + to + "," + by + ")", x.drift(from, to, by), m.drift(from, to, by));
                    break;
                }
                case 4: case 5: {
                    int spell = near(Math.max(0, m.now - 20), Math.min(479, m.now + 20));
                    int asOf = near(Math.max(0, m.now - 20), Math.min(479, m.now + 3));
                    int what = near(0, 2);
                    due("known(" + spell + "," + asOf + "," + what + ")", x.known(spell, asOf, what),
                        m.known(spell, asOf, what));
                    break;
                }
                case 6: case 7: case 8:
                    text();
                    break;
                case 9: {
                    int sheet = near(0, Math.max(0, m.sheets.size() - 1));
                    int spell = near(Math.min(479, m.now), Math.min(479, m.now + 12));
                    due("force(" + sheet + "," + spell + ")", x.force(sheet, spell), m.force(sheet, spell));
                    break;
                }
                case 10: {
                    int clause = near(0, 3);
                    int spell = near(0, 479);
                    due("why(" + clause + "," + spell + ")", x.why(clause, spell), m.why(clause, spell));
                    break;
                }
                case 11: {
                    int size = near(1, 20);
                    int suit = near(2, 20);
                    due("raft(" + size + "," + suit + ")", x.raft(size, suit), m.raft(size, suit));
                    break;
                }
                case 12: {
                    int column = near(0, 9);
                    int from = near(0, 59);
                    int to = from + near(0, 3);
                    if (random.nextInt(3) == 0) {
                        due("lane(" + column + "," + from + "," + to + ")", x.lane(column, from, to),
                            m.lane(column, from, to));
                    }
                    break;
                }
                case 13: case 14: case 15: {
                    int raft = near(0, Math.max(0, m.rafts.size() - 1));
                    int place = near(0, 9) * 10 + near(0, 4);
                    int strength = random.nextBoolean() ? near(10, 5000) : near(10, 300);
                    due("lay(" + raft + "," + place + "," + strength + ")", x.lay(raft, place, strength),
                        m.lay(raft, place, strength));
                    break;
                }
                case 16: {
                    int base = near(0, 288000);
                    due("base(" + base + ")", x.base(base) ? 1 : 0, m.base(base) ? 1 : 0);
                    break;
                }
                case 17: {
                    int rated = near(0, 120);
                    due("rated(" + rated + ")", x.rated(rated) ? 1 : 0, m.rated(rated) ? 1 : 0);
                    break;
                }
                case 18: case 19: case 20: case 21: {
                    int n = bigness == 3 && random.nextInt(6) == 0 ? near(0, 80) : near(0, 5);
                    due("go(" + n + ")", x.go(n), m.go(n));
                    break;
                }
                case 22: case 23: case 24: {
                    int raft = near(0, Math.max(0, m.rafts.size() - 1));
                    int what = random.nextBoolean() ? near(0, 8) : pick(1, 4) * 10 + pick(0, 3);
                    due("told(" + raft + "," + what + ")", x.told(raft, what), m.told(raft, what));
                    break;
                }
                case 25: case 26: {
                    int spell = near(0, Math.max(0, m.now - 1));
                    int what = random.nextBoolean() ? near(0, 2) : near(10, 19);
                    due("booked(" + spell + "," + what + ")", x.booked(spell, what), m.booked(spell, what));
                    break;
                }
                case 27: case 28: case 29: {
                    int spell = near(0, Math.max(0, m.now - 1));
                    int asOf = random.nextInt(4) == 0 ? near(0, 479) : near(spell, Math.max(spell, m.now));
                    int what = random.nextBoolean() ? near(0, 2) : near(10, 19);
                    due("right(" + spell + "," + asOf + "," + what + ")", x.right(spell, asOf, what),
                        m.right(spell, asOf, what));
                    break;
                }
                case 30: {
                    int from = near(0, Math.max(0, m.now - 1));
                    int to = near(from, Math.max(from, m.now - 1));
                    due("owed(" + from + "," + to + ")", x.owed(from, to), m.owed(from, to));
                    break;
                }
                case 31: case 32: {
                    int raft = near(0, Math.max(0, m.rafts.size() - 1));
                    int what = random.nextInt(5) == 0 ? near(0, 8) : pick(0, 3) * 2;
                    due("would(" + raft + "," + what + ")", x.would(raft, what), m.would(raft, what));
                    break;
                }
                case 33: {
                    int column = near(0, 9);
                    int from = near(0, 200);
                    int to = near(from, Math.max(from, 200));
                    boolean high = random.nextBoolean();
                    due("beach(" + column + "," + from + "," + to + "," + high + ")", x.beach(column, from, to, high),
                        m.beach(column, from, to, high));
                    break;
                }
                case 34: {
                    int part = near(0, 2);
                    int n = random.nextBoolean() ? near(1, 20) : near(20, 20);
                    due("parts(" + part + "," + n + ")", x.parts(part, n), m.parts(part, n));
                    break;
                }
                case 35: case 36: {
                    int boat = near(0, 2);
                    int part = near(0, 2);
                    int n = near(-3, 9);
                    due("load(" + boat + "," + part + "," + n + ")", x.load(boat, part, n), m.load(boat, part, n));
                    break;
                }
                case 37: case 38: case 39: {
                    int boat = near(0, 2);
                    int raft = near(0, Math.max(0, m.rafts.size() - 1));
                    int job = near(0, 4);
                    int spells = random.nextBoolean() ? near(1, 8) : near(1, 2);
                    int strength = job <= 2 ? near(10, 5000) : near(0, 0);
                    due("send(" + boat + "," + raft + "," + job + "," + spells + "," + strength + ")",
                        x.send(boat, raft, job, spells, strength), m.send(boat, raft, job, spells, strength));
                    break;
                }
                case 40: {
                    int boat = near(0, 2);
                    int what = near(0, 6);
                    due("boat(" + boat + "," + what + ")", x.boat(boat, what), m.boat(boat, what));
                    break;
                }
                case 41: {
                    if (random.nextInt(12) == 0) {
                        due("forget()", x.forget(), m.forget());
                    }
                    int length = random.nextBoolean() ? near(1, 16) : near(1, 4);
                    int worth = random.nextBoolean() ? near(1, 999) : near(1, 4);
                    due("want(" + length + "," + worth + ")", x.want(length, worth), m.want(length, worth));
                    break;
                }
                case 42: {
                    int n = near(1, 40);
                    int k = near(0, 4);
                    int what = near(0, 1);
                    due("window(" + n + "," + k + "," + what + ")", x.window(n, k, what), m.window(n, k, what));
                    break;
                }
                case 43: {
                    int n = near(1, 40);
                    if (m.planIsSmall(n)) {
                        for (int job = -2; job <= m.jobs.size(); job++) {
                            due("plan(" + n + "," + job + ")", x.plan(n, job), m.plan(n, job));
                        }
                    }
                    break;
                }
                case 44: {
                    if (random.nextInt(12) == 0) {
                        due("clear()", x.clear(), m.clear());
                    }
                    int place = near(0, 9) * 10 + near(0, 4);
                    due("place(" + place + ")", x.place(place), m.place(place));
                    break;
                }
                case 45:
                    laying();
                    break;
                case 46: {
                    int raft = near(0, Math.max(0, m.rafts.size() - 1));
                    int chain = near(0, 2);
                    due("blame(" + raft + "," + chain + ")", x.blame(raft, chain), m.blame(raft, chain));
                    if (random.nextInt(3) == 0) {
                        int a = near(0, 15);
                        int b = near(a, Math.max(a, 15));
                        boolean dead = random.nextInt(3) == 0;
                        due("test(" + a + "," + b + "," + dead + ")", x.test(a, b, dead), m.test(a, b, dead));
                    }
                    due("next()", x.next(), m.next());
                    break;
                }
                default: {
                    int what = random.nextBoolean() ? near(0, 11) : near(20, 22);
                    due("count(" + what + ")", x.count(what), m.count(what));
                    break;
                }
            }
        }

        void laying() {
            int many = near(1, 3);
            int rafts = 0;
            for (int i = 0; i < many && i < 4; i++) {
                rafts = rafts * 10 + pick(0, Math.min(9, Math.max(0, m.rafts.size() - 1)));
            }
            if (random.nextInt(20) == 0) {
                rafts = near(0, 999);
            }
            int from = near(Math.max(0, m.now - 10), Math.min(479, m.now + 10));
            int to = from + near(0, 23);
            int spells = from * 1000 + to;
            int floor = near(0, 100);
            int k = near(-1, 2);
            due("laying(" + rafts + "," + many + "," + spells + "," + floor + "," + k + ")",
                x.laying(rafts, many, spells, floor, k), m.laying(rafts, many, spells, floor, k));
        }

        void text() {
            if (random.nextInt(4) > 0) {
                due("end(0)", x.end(0) ? 1 : 0, m.end(0) ? 1 : 0);
            }
            String text = new Writer(random).text();
            if (random.nextInt(2) == 0) {
                text = spoil(text);
            }
            int whole = (text.length() + 19) / 20 * 20;
            StringBuilder padded = new StringBuilder(text);
            while (padded.length() < whole) {
                padded.append(' ');
            }
            int before = m.text.length();
            for (int i = 0; i < whole; i += 20) {
                int[] n = new int[5];
                for (int j = 0; j < 20; j++) {
                    n[j / 4] = n[j / 4] << 8 | padded.charAt(i + j) & 255;
                }
                due("feed(" + padded.substring(i, i + 20) + ")", x.feed(n[0], n[1], n[2], n[3], n[4]),
                    m.feed(padded.substring(i, i + 20)));
            }
            int n = random.nextInt(10) == 0 ? near(0, 400) : before + text.length();
            due("end(" + n + ")", x.end(n) ? 1 : 0, m.end(n) ? 1 : 0);
            due("fault() of " + m.text, x.fault(), m.fault());
            if (random.nextInt(3) > 0) {
                due("sheet()", x.sheet(), m.sheet());
                due("count(7)", x.count(7), m.count(7));
                if (m.sheets.size() > 0) {
                    int sheet = m.sheets.size() - 1;
                    int spell = m.now + random.nextInt(3);
                    due("force(" + sheet + "," + spell + ")", x.force(sheet, spell), m.force(sheet, spell));
                }
            }
        }

        String spoil(String text) {
            StringBuilder b = new StringBuilder(text);
            int times = 1 + random.nextInt(2);
            for (int i = 0; i < times; i++) {
                int at = random.nextInt(b.length() + 1);
                String some = "+-*/()[]<>=; 0159asnotk$A\u00e9";
                char c = some.charAt(random.nextInt(some.length()));
                switch (random.nextInt(5)) {
                    case 0:
                        b.insert(at, c);
                        break;
                    case 1:
                        if (at < b.length()) {
                            b.deleteCharAt(at);
                        }
                        break;
                    case 2:
                        if (at < b.length()) {
                            b.setCharAt(at, c);
                        }
                        break;
                    case 3:
                        b.setLength(at);
                        break;
                    default:
                        b.insert(at, random.nextBoolean() ? " not " : " ( ");
                        break;
                }
            }
            return b.toString();
        }
    }

    /** Writes TEXTS by the grammar. */
    private static final class Writer {
        static final String[] NAMES = {"height", "period", "way", "power", "hold", "size", "day", "spell", "ready"};
        final Random random;

        Writer(Random random) {
            this.random = random;
        }

        String text() {
            String[] words = {"sink", "rise", "boat", "pay"};
            List<Integer> order = new ArrayList<>(List.of(0, 1, 2, 3));
            StringBuilder b = new StringBuilder();
            int many = random.nextInt(5);
            for (int i = 0; i < many; i++) {
                int clause = order.remove(random.nextInt(order.size()));
                if (random.nextInt(30) == 0) {
                    order.add(clause);
                }
                b.append(blank()).append(words[clause]).append(' ');
                b.append(clause == 3 ? sum(3) : either(2)).append(blank()).append(';');
            }
            return b.length() > 380 ? "" : b.toString();
        }

        String blank() {
            return random.nextInt(3) == 0 ? "  " : "";
        }

        String sum(int left) {
            StringBuilder b = new StringBuilder(product(left));
            while (random.nextInt(3) == 0) {
                b.append(blank()).append(random.nextBoolean() ? "+" : "-").append(blank()).append(product(left));
            }
            return b.toString();
        }

        String product(int left) {
            StringBuilder b = new StringBuilder(factor(left));
            while (random.nextInt(4) == 0) {
                b.append(blank()).append(random.nextBoolean() ? "*" : "/").append(blank()).append(factor(left));
            }
            return b.toString();
        }

        String factor(int left) {
            int dice = random.nextInt(9);
            if (dice < 3 || left == 0 && dice > 6) {
                int[] most = {3, 20, 60, 1000, 99999, 100001};
                String zeros = random.nextInt(20) == 0 ? "0000" : "";
                return zeros + random.nextInt(most[random.nextInt(most.length)]);
            }
            if (dice < 7) {
                return NAMES[random.nextInt(NAMES.length)];
            }
            return "(" + blank() + sum(left - 1) + blank() + ")";
        }

        String either(int left) {
            StringBuilder b = new StringBuilder(both(left));
            while (random.nextInt(4) == 0) {
                b.append(" or ").append(both(left));
            }
            return b.toString();
        }

        String both(int left) {
            StringBuilder b = new StringBuilder(truth(left));
            while (random.nextInt(4) == 0) {
                b.append(" and ").append(truth(left));
            }
            return b.toString();
        }

        String truth(int left) {
            int dice = random.nextInt(6);
            if (left > 0 && dice == 0) {
                return "not " + truth(left - 1);
            }
            if (left > 0 && dice == 1) {
                return "[" + blank() + either(left - 1) + blank() + "]";
            }
            return sum(left) + blank() + "<>=".charAt(random.nextInt(3)) + blank() + sum(left);
        }
    }

    private record Token(String text, int place) {
    }

    private record Reading(int told, int spell, int height, int period, int way) {
    }

    private record Drift(int told, int from, int to, int by) {
    }

    private record Raft(int came, int size, int suit) {
    }

    private record Thing(int spell, int kind, int raft, int place, int strength) {
    }

    private record Sea(int height, int period, int way) {
    }

    private record Forced(int sheet, int spell) {
    }

    /** A SHEET is kept as its TOKENS and worked out from them each time. */
    private record Sheet(List<Token> tokens) {
        int clauseAt(String word) {
            for (int i = 0; i < tokens.size(); i++) {
                if (tokens.get(i).text().equals(word)) {
                    return i + 1;
                }
            }
            return -1;
        }
    }

    private static final class Names {
        int height, period, way, power, hold, size, day, spell, ready;

        int of(String name) {
            switch (name) {
                case "height": return height;
                case "period": return period;
                case "way": return way;
                case "power": return power;
                case "hold": return hold;
                case "size": return size;
                case "day": return day;
                case "spell": return spell;
                default: return ready;
            }
        }
    }

    /** Works out TOKENS that have no FAULT. */
    private static final class Worker {
        final List<Token> tokens;
        final Names names;
        int at;

        Worker(List<Token> tokens, int at, Names names) {
            this.tokens = tokens;
            this.at = at;
            this.names = names;
        }

        String peek() {
            return tokens.get(at).text();
        }

        static int cut(long n) {
            return (int) Math.max(-1000000, Math.min(1000000, n));
        }

        int sum() {
            int n = product();
            while (peek().equals("+") || peek().equals("-")) {
                String sign = peek();
                at++;
                int other = product();
                n = cut(sign.equals("+") ? (long) n + other : (long) n - other);
            }
            return n;
        }

        int product() {
            int n = factor();
            while (peek().equals("*") || peek().equals("/")) {
                String sign = peek();
                at++;
                int other = factor();
                n = sign.equals("*") ? cut((long) n * other) : other == 0 ? 0 : n / other;
            }
            return n;
        }

        int factor() {
            String t = peek();
            at++;
            if (t.equals("(")) {
                int n = sum();
                at++;
                return n;
            }
            return Character.isDigit(t.charAt(0)) ? Integer.parseInt(t) : names.of(t);
        }

        boolean either() {
            boolean b = both();
            while (peek().equals("or")) {
                at++;
                b |= both();
            }
            return b;
        }

        boolean both() {
            boolean b = truth();
            while (peek().equals("and")) {
                at++;
                b &= truth();
            }
            return b;
        }

        boolean truth() {
            if (peek().equals("not")) {
                at++;
                return !truth();
            }
            if (peek().equals("[")) {
                at++;
                boolean b = either();
                at++;
                return b;
            }
            int one = sum();
            String sign = peek();
            at++;
            int other = sum();
            return sign.equals("<") ? one < other : sign.equals(">") ? one > other : one == other;
        }
    }

    private static final class Chain {
        int strength, wear, broke = NONE;

        boolean holds() {
            return strength > 0 && broke == NONE;
        }

        int hold() {
            return strength - wear / 100;
        }
    }

    private static final class Hull {
        int state, place = NONE, took, power;
        long all;
        Chain[] chains = {new Chain(), new Chain(), new Chain()};

        int leak() {
            return Math.min(100, took / 16);
        }

        int bits() {
            return (chains[0].holds() ? 1 : 0) + (chains[1].holds() ? 2 : 0) + (chains[2].holds() ? 4 : 0);
        }

        int least() {
            int least = Integer.MAX_VALUE;
            for (Chain c : chains) {
                if (c.holds()) {
                    least = Math.min(least, c.hold());
                }
            }
            return least == Integer.MAX_VALUE ? 0 : least;
        }

        boolean ready() {
            return state == 1 || state == 2;
        }
    }

    private static final class Story {
        Hull[] hulls = new Hull[10];
        List<int[]> passes = new ArrayList<>();
        List<Integer> power = new ArrayList<>();
        List<Integer> pay = new ArrayList<>();
        int[] taken;
        int[] passing;

        Story() {
            for (int i = 0; i < 10; i++) {
                hulls[i] = new Hull();
            }
        }
    }

    private static final class Boat {
        int[] parts = new int[3];
        int last = NONE, raft, job, strength, done, failed;
    }

    private record Job(int length, int worth) {
    }

    private static final class Model {
        int now, base = 50000, rated = 60;
        List<Reading> readings = new ArrayList<>();
        List<Drift> drifts = new ArrayList<>();
        StringBuilder text = new StringBuilder();
        List<Sheet> sheets = new ArrayList<>();
        List<Forced> forced = new ArrayList<>();
        List<Raft> rafts = new ArrayList<>();
        List<int[]> lanes = new ArrayList<>();
        List<Thing> things = new ArrayList<>();
        int[] shore = new int[3];
        Boat[] boats = {new Boat(), new Boat(), new Boat()};
        List<Job> jobs = new ArrayList<>();
        List<Integer> places = new ArrayList<>();
        List<int[]> tests = new ArrayList<>();

        static boolean in(int n, int from, int to) {
            return n >= from && n <= to;
        }

        int reading(int spell, int what) {
            int way = what % 10;
            int period = what / 10 % 100;
            int height = what / 1000;
            boolean odd = what < 0 || what / 100 % 10 > 2 || !in(way, 0, 2) || !in(what % 1000 / 10, 2, 20)
                || !in(height, 0, 120);
            if (odd || !in(spell, 0, 479) || readings.size() == 400 || now == 480) {
                return NONE;
            }
            readings.add(new Reading(now, spell, height, period, way - 1));
            return readings.size();
        }

        int drift(int from, int to, int by) {
            if (!in(from, 0, 479) || !in(to, from, 479) || !in(by, -30, 30) || drifts.size() == 30 || now == 480) {
                return NONE;
            }
            drifts.add(new Drift(now, from, to, by));
            return drifts.size();
        }

        Sea sea(int t, int s) {
            for (int u = t; u >= 0 && u >= t - 8; u--) {
                Reading found = null;
                for (Reading r : readings) {
                    if (r.spell() == u && r.told() <= s) {
                        found = r;
                    }
                }
                if (found != null) {
                    int height = found.height();
                    for (Drift d : drifts) {
                        if (d.told() <= s && in(u, d.from(), d.to())) {
                            height += d.by();
                        }
                    }
                    return new Sea(Math.max(0, Math.min(120, height)), found.period(), found.way());
                }
            }
            return new Sea(0, 8, 0);
        }

        int known(int spell, int asOf, int what) {
            if (!in(spell, 0, 479) || !in(asOf, 0, 479) || !in(what, 0, 2)) {
                return VOID;
            }
            Sea sea = sea(spell, asOf);
            return what == 0 ? sea.height() : what == 1 ? sea.period() : sea.way();
        }

        int feed(String twenty) {
            if (text.length() + 20 > 400) {
                return NONE;
            }
            text.append(twenty);
            return text.length();
        }

        boolean end(int n) {
            if (n < 0 || n > text.length()) {
                return false;
            }
            text.setLength(n);
            return true;
        }

        List<Token> tokens() {
            List<Token> out = new ArrayList<>();
            int i = 0;
            while (i < text.length()) {
                char c = text.charAt(i);
                int j = i + 1;
                if (c >= 'a' && c <= 'z') {
                    while (j < text.length() && text.charAt(j) >= 'a' && text.charAt(j) <= 'z') {
                        j++;
                    }
                } else if (c >= '0' && c <= '9') {
                    while (j < text.length() && text.charAt(j) >= '0' && text.charAt(j) <= '9') {
                        j++;
                    }
                }
                if (c != ' ') {
                    out.add(new Token(text.substring(i, j), i));
                }
                i = j;
            }
            return out;
        }

        /** Goes through the TOKENS with a row of what stands open, not by the grammar's own nesting. */
        int fault() {
            List<Token> tokens = tokens();
            List<Character> open = new ArrayList<>();
            List<String> had = new ArrayList<>();
            // c a clause is due, f a factor, t a truth, s behind a sum's factor, b behind a truth
            char due = 'c';
            for (Token token : tokens) {
                String t = token.text();
                int place = token.place();
                long deep = open.stream().filter(o -> o == '(' || o == '[' || o == 'n').count();
                if (due == 'c') {
                    if (!List.of("sink", "rise", "boat", "pay").contains(t) || had.contains(t)) {
                        return place;
                    }
                    had.add(t);
                    due = t.equals("pay") ? 'f' : 't';
                    open.add(t.equals("pay") ? 'P' : 'C');
                    continue;
                }
                if (due == 't') {
                    if (t.equals("not") || t.equals("[")) {
                        if (deep == 8) {
                            return place;
                        }
                        open.add(t.equals("[") ? '[' : 'n');
                        continue;
                    }
                    open.add('L');
                    due = 'f';
                }
                if (due == 'f') {
                    if (t.equals("(")) {
                        if (deep == 8) {
                            return place;
                        }
                        open.add('(');
                        continue;
                    }
                    boolean number = Character.isDigit(t.charAt(0)) && t.charAt(0) < 128;
                    if (number && new java.math.BigInteger(t).compareTo(java.math.BigInteger.valueOf(99999)) > 0) {
                        return place;
                    }
                    if (!number && !List.of(Writer.NAMES).contains(t)) {
                        return place;
                    }
                    due = 's';
                    continue;
                }
                char top = open.get(open.size() - 1);
                if (due == 's') {
                    if (List.of("+", "-", "*", "/").contains(t)) {
                        due = 'f';
                        continue;
                    }
                    if (top == '(') {
                        if (!t.equals(")")) {
                            return place;
                        }
                        open.remove(open.size() - 1);
                        continue;
                    }
                    if (top == 'L') {
                        if (!List.of("<", ">", "=").contains(t)) {
                            return place;
                        }
                        open.set(open.size() - 1, 'R');
                        due = 'f';
                        continue;
                    }
                    if (top == 'P') {
                        if (!t.equals(";")) {
                            return place;
                        }
                        open.clear();
                        due = 'c';
                        continue;
                    }
                    open.remove(open.size() - 1);
                    due = 'b';
                }
                while (open.get(open.size() - 1) == 'n') {
                    open.remove(open.size() - 1);
                }
                top = open.get(open.size() - 1);
                if (t.equals("or") || t.equals("and")) {
                    due = 't';
                } else if (top == '[' && t.equals("]")) {
                    open.remove(open.size() - 1);
                } else if (top == 'C' && t.equals(";")) {
                    open.clear();
                    due = 'c';
                } else {
                    return place;
                }
            }
            return due == 'c' ? NONE : text.length();
        }

        int sheet() {
            if (fault() != NONE || sheets.size() == 10) {
                return NONE;
            }
            sheets.add(new Sheet(tokens()));
            text.setLength(0);
            return sheets.size() - 1;
        }

        int force(int sheet, int spell) {
            if (!in(sheet, 0, sheets.size() - 1) || !in(spell, now, 479) || forced.size() == 15) {
                return NONE;
            }
            forced.add(new Forced(sheet, spell));
            return forced.size();
        }

        int why(int clause, int spell) {
            if (!in(clause, 0, 3) || !in(spell, 0, 479)) {
                return NONE;
            }
            String word = new String[] {"sink", "rise", "boat", "pay"}[clause];
            Forced best = null;
            for (Forced f : forced) {
                boolean has = sheets.get(f.sheet()).clauseAt(word) >= 0;
                if (has && f.spell() <= spell && (best == null || f.spell() >= best.spell())) {
                    best = f;
                }
            }
            return best == null ? NONE : best.sheet();
        }

        Worker worker(int clause, int spell, Sea sea, Hull hull, int size) {
            int number = why(clause, spell);
            if (number == NONE) {
                return null;
            }
            Names names = new Names();
            names.height = sea.height();
            names.period = sea.period();
            names.way = sea.way() + 1;
            names.day = spell / 8;
            names.spell = spell % 8;
            if (hull != null) {
                names.power = hull.power;
                names.hold = hull.least();
                names.size = size;
                names.ready = hull.ready() ? 1 : 0;
            }
            Sheet sheet = sheets.get(number);
            String word = new String[] {"sink", "rise", "boat", "pay"}[clause];
            return new Worker(sheet.tokens(), sheet.clauseAt(word), names);
        }

        int raft(int size, int suit) {
            if (!in(size, 1, 20) || !in(suit, 2, 20) || rafts.size() == 10) {
                return NONE;
            }
            rafts.add(new Raft(now, size, suit));
            return rafts.size() - 1;
        }

        int lane(int column, int from, int to) {
            if (!in(column, 0, 9) || !in(from, 0, 59) || !in(to, from, 59) || lanes.size() == 10) {
                return NONE;
            }
            lanes.add(new int[] {column, from, to});
            return lanes.size();
        }

        boolean shut(int place) {
            for (int[] lane : lanes) {
                if (lane[0] == place / 10 && in(now / 8, lane[1], lane[2])) {
                    return true;
                }
            }
            return false;
        }

        static boolean isPlace(int place) {
            return in(place, 0, 99) && place % 10 <= 4;
        }

        int lay(int raft, int place, int strength) {
            if (!in(raft, 0, rafts.size() - 1) || !isPlace(place) || !in(strength, 10, 5000) || things.size() == 200) {
                return NONE;
            }
            if (now == 480) {
                return NONE;
            }
            Story story = current();
            if (story.hulls[raft].state != 0 || shut(place) || taken(story, place)) {
                return NONE;
            }
            things.add(new Thing(now, 5, raft, place, strength));
            return things.size();
        }

        static boolean taken(Story story, int place) {
            for (Hull h : story.hulls) {
                if (h.ready() && h.place == place) {
                    return true;
                }
            }
            return false;
        }

        boolean base(int passes) {
            if (!in(passes, 0, 288000)) {
                return false;
            }
            base = passes;
            return true;
        }

        boolean rated(int height) {
            if (!in(height, 0, 120)) {
                return false;
            }
            rated = height;
            return true;
        }

        static boolean doable(Story story, Thing thing) {
            Hull h = story.hulls[thing.raft()];
            if (thing.kind() == 5) {
                return h.state == 0 && !taken(story, thing.place());
            }
            return thing.kind() == 4 ? h.state != 0 : h.ready();
        }

        static void apply(Story story, Thing thing) {
            if (!doable(story, thing)) {
                return;
            }
            Hull h = story.hulls[thing.raft()];
            if (thing.kind() == 5) {
                h.state = 1;
                h.place = thing.place();
                for (int i = 0; i < 3; i++) {
                    h.chains[i] = new Chain();
                    h.chains[i].strength = thing.strength();
                }
            } else if (thing.kind() == 4) {
                h.state = 0;
                h.place = NONE;
                h.chains = new Chain[] {new Chain(), new Chain(), new Chain()};
            } else if (thing.kind() == 3) {
                h.took = 0;
            } else {
                h.chains[thing.kind()] = new Chain();
                h.chains[thing.kind()].strength = thing.strength();
            }
        }

        /** Goes through SPELLS 0 .. upTo - 1; asOf NONE: each by what was KNOWN in it. */
        Story story(int upTo, int asOf) {
            Story story = new Story();
            for (int t = 0; t < upTo; t++) {
                Sea sea = sea(t, asOf == NONE ? t : asOf);
                for (Thing thing : things) {
                    if (thing.spell() == t) {
                        apply(story, thing);
                    }
                }
                spell(story, t, sea);
            }
            return story;
        }

        Story bookedStory;
        int bookedUpTo = -1;

        Story current() {
            Story story = story(now, NONE);
            for (Thing thing : things) {
                if (thing.spell() == now) {
                    apply(story, thing);
                }
            }
            return story;
        }

        void spell(Story story, int t, Sea sea) {
            for (int r = 0; r < rafts.size(); r++) {
                Hull h = story.hulls[r];
                if (h.ready()) {
                    Worker w = worker(h.state == 1 ? 0 : 1, t, sea, h, rafts.get(r).size());
                    if (w != null && w.either()) {
                        h.state = 3 - h.state;
                    }
                }
            }
            waves(story, sea);
            int all = 0;
            for (int r = 0; r < rafts.size(); r++) {
                Hull h = story.hulls[r];
                h.power = story.taken[r] * (100 - h.leak()) / 100;
                h.took += story.taken[r] > 0 ? 1 : 0;
                h.all += h.power;
                all += h.power;
            }
            story.power.add(all);
            story.passes.add(story.passing);
            int pay = 0;
            for (int r = 0; r < rafts.size(); r++) {
                Hull h = story.hulls[r];
                if (h.state == 1) {
                    strain(h, t, sea, rafts.get(r).size());
                }
                Worker w = worker(3, t, sea, h, rafts.get(r).size());
                if (rafts.get(r).came() <= t && w != null) {
                    pay += Math.max(-100000, Math.min(100000, w.sum()));
                }
            }
            story.pay.add(pay);
        }

        void strain(Hull h, int t, Sea sea, int size) {
            int[] weights = sea.way() == 0 ? new int[] {1, 3, 1} : sea.way() == 1 ? new int[] {3, 2, 1}
                : new int[] {1, 2, 3};
            int all = 0;
            for (int i = 0; i < 3; i++) {
                all += h.chains[i].holds() ? weights[i] : 0;
            }
            for (int i = 0; i < 3; i++) {
                Chain c = h.chains[i];
                if (c.holds()) {
                    int load = sea.height() * (size + 5) * weights[i] / all;
                    if (load > c.hold()) {
                        c.broke = t;
                    } else if (load > 100) {
                        c.wear += load - 100;
                    }
                }
            }
            if (h.bits() == 0) {
                h.state = 3;
                h.place = NONE;
            }
        }

        /** Follows what comes to each place back to where it came from, instead of row by row. */
        void waves(Story story, Sea sea) {
            story.taken = new int[10];
            story.passing = new int[10];
            for (int c = 0; c < 10; c++) {
                story.passing[c] = behind(story, sea, c, 4);
            }
            // Places whose rest leaves the sea at the side are reached by no column's path.
            for (int row = 0; row < 5; row++) {
                for (int c = 0; c < 10; c++) {
                    behind(story, sea, c, row);
                }
            }
        }

        int behind(Story story, Sea sea, int column, int row) {
            int open = sea.height() * sea.height() * sea.period();
            int from = column - sea.way();
            int here = row == 0 || !in(from, 0, 9) ? open : behind(story, sea, from, row - 1);
            for (int r = 0; r < rafts.size(); r++) {
                Hull h = story.hulls[r];
                if (h.state == 1 && h.place == column * 10 + row) {
                    int fit = Math.max(0, 100 - 15 * Math.abs(sea.period() - rafts.get(r).suit()));
                    int size = rafts.get(r).size();
                    story.taken[r] = here * fit / 100 * size / (size + 20);
                    return here - story.taken[r];
                }
            }
            return here;
        }

        boolean boatsGo(int t, int asOf) {
            Worker w = worker(2, t, sea(t, asOf), null, 0);
            return w == null || w.either();
        }

        int go(int n) {
            if (!in(n, 0, 80)) {
                return NONE;
            }
            for (int i = 0; i < n && now < 480; i++) {
                boolean go = boatsGo(now, now);
                boolean ending = false;
                for (Boat b : boats) {
                    if (b.last != NONE && !go) {
                        b.last = NONE;
                        b.failed++;
                    }
                    ending |= b.last == now;
                }
                now++;
                for (Boat b : boats) {
                    if (ending && b.last == now - 1) {
                        Thing thing = new Thing(now, b.job, b.raft, NONE, b.strength);
                        if (things.size() < 200 && doable(current(), thing)) {
                            things.add(thing);
                            b.done++;
                            if (b.job < 4) {
                                b.parts[b.job < 3 ? 0 : 1]--;
                            }
                        } else {
                            b.failed++;
                        }
                        b.last = NONE;
                    }
                }
            }
            return now;
        }

        int told(int raft, int what) {
            if (!in(raft, 0, rafts.size() - 1)) {
                return NONE;
            }
            Hull h = current().hulls[raft];
            int chain = what % 10;
            if (what >= 10 && chain < 3 && what < 40) {
                Chain c = h.chains[chain];
                return what < 20 ? c.strength : what < 30 ? c.wear : c.broke;
            }
            switch (what) {
                case 0: return h.state;
                case 1: return h.place;
                case 2: return rafts.get(raft).size();
                case 3: return rafts.get(raft).suit();
                case 4: return h.leak();
                case 5: return h.power;
                case 6: return h.bits();
                case 7: return (int) h.all;
                default: return NONE;
            }
        }

        static int ofSpell(Story story, int spell, int what) {
            return what == 0 ? story.power.get(spell) : what == 1 ? story.pay.get(spell)
                : in(what, 10, 19) ? story.passes.get(spell)[what - 10] : VOID;
        }

        int booked(int spell, int what) {
            return in(spell, 0, now - 1) ? ofSpell(story(now, NONE), spell, what) : VOID;
        }

        int right(int spell, int asOf, int what) {
            if (!in(spell, 0, now - 1) || !in(asOf, spell, Math.min(now, 479))) {
                return VOID;
            }
            return ofSpell(story(spell + 1, asOf), spell, what);
        }

        int owed(int from, int to) {
            if (from < 0 || to < from || to >= now) {
                return VOID;
            }
            Story right = story(now, now);
            Story booked = story(now, NONE);
            int sum = 0;
            for (int t = from; t <= to; t++) {
                sum += right.pay.get(t) - booked.pay.get(t);
            }
            return sum;
        }

        int would(int raft, int what) {
            if (!in(raft, 0, rafts.size() - 1) || now == 0) {
                return NONE;
            }
            Hull h = story(now, now).hulls[raft];
            return what == 0 ? h.state : what == 4 ? h.leak() : what == 6 ? h.bits() : NONE;
        }

        int beach(int column, int from, int to, boolean high) {
            if (!in(column, 0, 9) || !in(from, 0, 200) || !in(to, from, 200)) {
                return VOID;
            }
            Story story = story(now, NONE);
            int sum = 0;
            for (int t = 0; t < now; t++) {
                int change = (base - story.passes.get(t)[column]) / 1000;
                int worst = change * from / 100;
                for (int f = from; f <= to; f++) {
                    int n = change * f / 100;
                    worst = high ? Math.max(worst, n) : Math.min(worst, n);
                }
                sum += worst;
            }
            return sum;
        }

        int parts(int part, int n) {
            if (!in(part, 0, 2) || !in(n, 1, 20) || shore[part] + n > 99) {
                return NONE;
            }
            return shore[part] += n;
        }

        int load(int boat, int part, int n) {
            if (!in(boat, 0, 2) || !in(part, 0, 2) || !in(n, -9, 9) || boats[boat].last != NONE) {
                return NONE;
            }
            if (!in(boats[boat].parts[part] + n, 0, 9) || !in(shore[part] - n, 0, 99)) {
                return NONE;
            }
            shore[part] -= n;
            return boats[boat].parts[part] += n;
        }

        int send(int boat, int raft, int job, int spells, int strength) {
            if (!in(boat, 0, 2) || boats[boat].last != NONE || !in(raft, 0, rafts.size() - 1) || !in(job, 0, 4)) {
                return NONE;
            }
            if (!in(spells, 1, 8) || now + spells > 480 || (job < 3 ? !in(strength, 10, 5000) : strength != 0)) {
                return NONE;
            }
            Boat b = boats[boat];
            if (b.parts[job < 3 ? 0 : job - 2] == 0) {
                return NONE;
            }
            b.last = now + spells - 1;
            b.raft = raft;
            b.job = job;
            b.strength = strength;
            return b.last;
        }

        int boat(int boat, int what) {
            if (!in(boat, 0, 2) || !in(what, 0, 5)) {
                return NONE;
            }
            Boat b = boats[boat];
            return what == 0 ? (b.last == NONE ? 1 : 0) : what <= 3 ? b.parts[what - 1] : what == 4 ? b.done : b.failed;
        }

        int want(int length, int worth) {
            if (!in(length, 1, 16) || !in(worth, 1, 999) || jobs.size() == 6) {
                return NONE;
            }
            jobs.add(new Job(length, worth));
            return jobs.size();
        }

        int forget() {
            int were = jobs.size();
            jobs.clear();
            return were;
        }

        List<int[]> windows(int n) {
            List<int[]> out = new ArrayList<>();
            for (int t = now; t < Math.min(480, now + n); t++) {
                if (boatsGo(t, now)) {
                    int[] last = out.isEmpty() ? null : out.get(out.size() - 1);
                    if (last != null && last[0] + last[1] == t) {
                        last[1]++;
                    } else {
                        out.add(new int[] {t, 1});
                    }
                }
            }
            return out;
        }

        int window(int n, int k, int what) {
            if (!in(n, 1, 40) || !in(what, 0, 1)) {
                return NONE;
            }
            List<int[]> all = windows(n);
            return in(k, 0, all.size() - 1) ? all.get(k)[what] : NONE;
        }

        boolean planIsSmall(int n) {
            return !in(n, 1, 40) || Math.pow(windows(n).size() + 1, jobs.size()) < 200000;
        }

        int bestWorth, bestLength;
        int[] best;

        int plan(int n, int job) {
            if (!in(n, 1, 40) || !in(job, -1, jobs.size() - 1)) {
                return NONE;
            }
            bestWorth = -1;
            List<int[]> all = windows(n);
            int[] left = new int[all.size()];
            for (int i = 0; i < left.length; i++) {
                left[i] = all.get(i)[1];
            }
            tryPlan(0, left, new int[jobs.size()], 0, 0);
            return job == -1 ? bestWorth : best[job];
        }

        void tryPlan(int job, int[] left, int[] at, int worth, int length) {
            if (job == jobs.size()) {
                if (worth > bestWorth || worth == bestWorth && length < bestLength) {
                    bestWorth = worth;
                    bestLength = length;
                    best = at.clone();
                }
                return;
            }
            Job j = jobs.get(job);
            for (int w = 0; w < left.length; w++) {
                if (left[w] >= j.length()) {
                    left[w] -= j.length();
                    at[job] = w;
                    tryPlan(job + 1, left, at, worth + j.worth(), length + j.length());
                    left[w] += j.length();
                }
            }
            at[job] = NONE;
            tryPlan(job + 1, left, at, worth, length);
        }

        int place(int place) {
            if (!isPlace(place) || places.contains(place) || places.size() == 8) {
                return NONE;
            }
            places.add(place);
            return places.size();
        }

        int clear() {
            int were = places.size();
            places.clear();
            return were;
        }

        long bestPower;
        int[] bestPlaces;

        int laying(int digits, int many, int spells, int floor, int k) {
            if (!in(many, 1, 3) || digits < 0 || digits >= Math.pow(10, many) || !in(floor, 0, 100)) {
                return NONE;
            }
            int from = spells / 1000;
            int to = spells % 1000;
            if (spells < 0 || !in(from, 0, 479) || !in(to, from, 479) || to - from > 23 || !in(k, -1, many - 1)) {
                return NONE;
            }
            Story story = current();
            List<Integer> who = new ArrayList<>();
            String text = String.format("%0" + many + "d", digits);
            for (int i = 0; i < many; i++) {
                int raft = text.charAt(i) - '0';
                if (raft >= rafts.size() || story.hulls[raft].state != 0 || who.contains(raft)) {
                    return NONE;
                }
                who.add(raft);
            }
            bestPower = -1;
            tryLaying(story, who, 0, new ArrayList<>(), from, to, floor);
            return bestPower < 0 ? NONE : k == -1 ? (int) bestPower : bestPlaces[k];
        }

        void tryLaying(Story story, List<Integer> who, int i, List<Integer> used, int from, int to, int floor) {
            if (i == who.size()) {
                long power = layingPower(story, from, to, floor);
                if (power > bestPower) {
                    bestPower = power;
                    bestPlaces = used.stream().mapToInt(p -> p).toArray();
                }
                return;
            }
            for (int place : places) {
                if (!used.contains(place) && !shut(place) && !taken(story, place)) {
                    Hull h = story.hulls[who.get(i)];
                    h.state = 1;
                    h.place = place;
                    used.add(place);
                    tryLaying(story, who, i + 1, used, from, to, floor);
                    used.remove(used.size() - 1);
                    h.state = 0;
                    h.place = NONE;
                }
            }
        }

        long layingPower(Story story, int from, int to, int floor) {
            long power = 0;
            for (int t = from; t <= to; t++) {
                Sea sea = sea(t, now);
                waves(story, sea);
                for (int c = 0; c < 10; c++) {
                    if (100L * story.passing[c] < (long) floor * sea.height() * sea.height() * sea.period()) {
                        return -1;
                    }
                }
                for (int r = 0; r < rafts.size(); r++) {
                    power += story.taken[r] * (100 - story.hulls[r].leak()) / 100;
                }
            }
            return power;
        }

        int blame(int raft, int chain) {
            if (!in(raft, 0, rafts.size() - 1) || !in(chain, 0, 2)) {
                return NONE;
            }
            Chain c = current().hulls[raft].chains[chain];
            if (c.broke == NONE) {
                return NONE;
            }
            return sea(c.broke, now).height() > rated ? 1 : c.wear > 100 * c.strength / 3 ? 2 : 0;
        }

        int suspects() {
            int bits = 0;
            for (int joint = 0; joint < 16; joint++) {
                boolean can = true;
                for (int[] test : tests) {
                    can &= in(joint, test[0], test[1]) == (test[2] == 1);
                }
                bits |= can ? 1 << joint : 0;
            }
            return bits;
        }

        int test(int a, int b, boolean dead) {
            if (!in(a, 0, 15) || !in(b, a, 15) || tests.size() == 20) {
                return NONE;
            }
            tests.add(new int[] {a, b, dead ? 1 : 0});
            return suspects();
        }

        int next() {
            int bits = suspects();
            if (Integer.bitCount(bits) < 2) {
                return NONE;
            }
            int best = NONE;
            int fewest = 99;
            for (int a = 0; a < 16; a++) {
                for (int b = a; b < 16; b++) {
                    int in = 0;
                    int out = 0;
                    for (int joint = 0; joint < 16; joint++) {
                        if ((bits >> joint & 1) == 1) {
                            in += in(joint, a, b) ? 1 : 0;
                            out += in(joint, a, b) ? 0 : 1;
                        }
                    }
                    if (Math.max(in, out) < fewest) {
                        fewest = Math.max(in, out);
                        best = a * 100 + b;
                    }
                }
            }
            return best;
        }

        int count(int what) {
            int[] all = {now, rafts.size(), readings.size(), drifts.size(), sheets.size(), things.size(), lanes.size(),
                text.length(), suspects(), jobs.size(), places.size()};
            return in(what, 0, 10) ? all[what] : in(what, 20, 22) ? shore[what - 20] : NONE;
        }
    }
}
