import java.lang.reflect.InvocationTargetException;
import java.lang.reflect.Method;
import java.util.ArrayList;
import java.util.HashMap;
import java.util.List;
import java.util.Map;
import java.util.Random;

/**
 * Twins: one is asked everything, with any arguments; the other only what the first did not refuse, and few of the
 * questions. As what is refused changes nothing, and questions change nothing, both answer alike; and none ever throws.
 */
public final class RefusalsTest {
    /** Bounds of the arguments of each method; {0, -1} stands for a SPELL about NOW, {0, -2} for any number. */
    private static final Map<String, int[][]> ARGUMENTS = new HashMap<>();
    private static final int[] NEAR_NOW = {0, -1};
    private static final int[] ANY = {0, -2};
    private static final String CHANGES = " reading drift feed end sheet force raft lane lay base rated go parts load send "
        + "want forget place clear test ";
    private static final int[] ODD = {Integer.MIN_VALUE, Integer.MIN_VALUE + 1, -1000000, -1, 0, 1, 479, 480, 1000000,
        Integer.MAX_VALUE - 1, Integer.MAX_VALUE};
    private static final String[] TEXTS = {"sink height > 25; rise height < 20;", "boat height < 22 or spell = 3;",
        "pay power - hold + size * ready;", "boat 1 = 1; pay height * way;", "", "pay 1", "sink power > 99 and not hold = 0;"};

    static {
        ARGUMENTS.put("reading", new int[][] {NEAR_NOW, {2040, 30122}});
        ARGUMENTS.put("drift", new int[][] {NEAR_NOW, NEAR_NOW, {-30, 30}});
        ARGUMENTS.put("known", new int[][] {NEAR_NOW, NEAR_NOW, {0, 2}});
        ARGUMENTS.put("feed", new int[][] {ANY, ANY, ANY, ANY, ANY});
        ARGUMENTS.put("end", new int[][] {{0, 400}});
        ARGUMENTS.put("force", new int[][] {{0, 9}, NEAR_NOW});
        ARGUMENTS.put("why", new int[][] {{0, 3}, NEAR_NOW});
        ARGUMENTS.put("raft", new int[][] {{1, 20}, {2, 20}});
        ARGUMENTS.put("lane", new int[][] {{0, 9}, {0, 59}, {0, 59}});
        ARGUMENTS.put("lay", new int[][] {{0, 9}, {0, 99}, {10, 2000}});
        ARGUMENTS.put("base", new int[][] {{0, 288000}});
        ARGUMENTS.put("rated", new int[][] {{0, 120}});
        ARGUMENTS.put("go", new int[][] {{0, 9}});
        ARGUMENTS.put("told", new int[][] {{0, 9}, {0, 33}});
        ARGUMENTS.put("booked", new int[][] {NEAR_NOW, {0, 19}});
        ARGUMENTS.put("right", new int[][] {NEAR_NOW, NEAR_NOW, {0, 19}});
        ARGUMENTS.put("owed", new int[][] {NEAR_NOW, NEAR_NOW});
        ARGUMENTS.put("would", new int[][] {{0, 9}, {0, 6}});
        ARGUMENTS.put("beach", new int[][] {{0, 9}, {0, 200}, {0, 200}});
        ARGUMENTS.put("parts", new int[][] {{0, 2}, {1, 20}});
        ARGUMENTS.put("load", new int[][] {{0, 2}, {0, 2}, {-9, 9}});
        ARGUMENTS.put("send", new int[][] {{0, 2}, {0, 9}, {0, 4}, {1, 8}, {-1000, 2000}});
        ARGUMENTS.put("boat", new int[][] {{0, 2}, {0, 5}});
        ARGUMENTS.put("want", new int[][] {{1, 16}, {1, 999}});
        ARGUMENTS.put("window", new int[][] {{1, 40}, {0, 4}, {0, 1}});
        ARGUMENTS.put("plan", new int[][] {{1, 40}, {-1, 5}});
        ARGUMENTS.put("place", new int[][] {{0, 99}});
        ARGUMENTS.put("laying", new int[][] {{0, 99}, {1, 3}, {0, 479479}, {0, 100}, {-1, 2}});
        ARGUMENTS.put("blame", new int[][] {{0, 9}, {0, 2}});
        ARGUMENTS.put("test", new int[][] {{0, 15}, {0, 15}});
        ARGUMENTS.put("count", new int[][] {{0, 22}});
    }

    private static int wrong = 0;
    private static long answers = 0;
    private static final Map<String, Integer> refused = new HashMap<>();

    public static void main(String[] args) throws ReflectiveOperationException {
        int runs = args.length > 0 ? Integer.parseInt(args[0]) : 2000;
        for (int seed = 1; seed <= runs && wrong < 5; seed++) {
            new RefusalsTest(seed).go();
        }
        for (String change : CHANGES.strip().split(" ")) {
            boolean never = change.equals("forget") || change.equals("clear");
            if (!never && runs >= 1000 && refused.getOrDefault(change, 0) < 100) {
                System.out.println("hardly ever refused: " + change);
                wrong++;
            }
        }
        System.out.println(answers + " answers of twins, " + wrong + " wrong");
        if (wrong != 0) {
            System.exit(1);
        }
    }

    private final int seed;
    private final Random random;
    private final NoddingRafts one = new NoddingRafts();
    private final NoddingRafts other = new NoddingRafts();
    private final StringBuilder trace = new StringBuilder();
    private final List<Method> methods = new ArrayList<>();
    private int now = 0;
    private int lastSheet = -1;

    private RefusalsTest(int seed) {
        this.seed = seed;
        random = new Random(seed);
        List<String> names = new ArrayList<>();
        for (Method m : NoddingRafts.class.getMethods()) {
            if (m.getDeclaringClass() == NoddingRafts.class) {
                names.add(m.getName());
            }
        }
        names.sort(null);
        for (String name : names) {
            for (Method m : NoddingRafts.class.getMethods()) {
                if (m.getName().equals(name)) {
                    methods.add(m);
                }
            }
        }
    }

    private void go() throws ReflectiveOperationException {
        if (seed % 8 == 0) {
            for (int i = 0; i < 6; i++) {
                call(method("go"), i < 5 ? 80 : 70);
            }
        }
        // Some begin with a TEXT that is full.
        for (int i = 0; i < 21 && seed % 5 == 0; i++) {
            call(method("feed"), arguments(method("feed")));
        }
        for (int i = 0; i < 5; i++) {
            call(method("raft"), 1 + random.nextInt(20), 4 + random.nextInt(8));
            call(method("lay"), i, random.nextInt(10) * 10 + random.nextInt(5), 10 + random.nextInt(400));
        }
        for (int calls = 40; calls < 430 && wrong < 5; calls++) {
            if (random.nextInt(40) == 0) {
                calls += text(TEXTS[random.nextInt(TEXTS.length)]);
            }
            Method m = random.nextInt(12) == 0 ? method("go") : methods.get(random.nextInt(methods.size()));
            call(m, arguments(m));
        }
        for (int what = 0; what <= 22; what++) {
            ask(method("count"), what);
        }
        for (int raft = 0; raft < 10; raft++) {
            ask(method("told"), raft, 7);
            ask(method("told"), raft, 21);
            ask(method("would"), raft, 6);
        }
    }

    private Method method(String name) {
        for (Method m : methods) {
            if (m.getName().equals(name)) {
                return m;
            }
        }
        throw new IllegalStateException(name);
    }

    private int text(String text) throws ReflectiveOperationException {
        call(method("end"), 0);
        StringBuilder b = new StringBuilder(text);
        while (b.length() % 20 != 0) {
            b.append(' ');
        }
        for (int i = 0; i < b.length(); i += 20) {
            Object[] n = {0, 0, 0, 0, 0};
            for (int j = 0; j < 20; j++) {
                n[j / 4] = (int) n[j / 4] << 8 | b.charAt(i + j) & 255;
            }
            call(method("feed"), n);
        }
        call(method("end"), text.length());
        call(method("sheet"));
        call(method("force"), lastSheet, Math.min(479, now + random.nextInt(3)));
        return 4 + b.length() / 20;
    }

    private Object[] arguments(Method m) {
        int[][] bounds = ARGUMENTS.getOrDefault(m.getName(), new int[0][]);
        Object[] arguments = new Object[m.getParameterCount()];
        for (int i = 0; i < arguments.length; i++) {
            arguments[i] = i < bounds.length ? (Object) number(bounds[i]) : (Object) random.nextBoolean();
        }
        return arguments;
    }

    private int number(int[] bounds) {
        int dice = random.nextInt(40);
        if (dice == 0) {
            return ODD[random.nextInt(ODD.length)];
        }
        if (bounds == ANY) {
            return random.nextInt();
        }
        int from = bounds == NEAR_NOW ? now - 10 : bounds[0];
        int to = bounds == NEAR_NOW ? now + 10 : bounds[1];
        return dice == 1 ? from - 1 : dice == 2 ? to + 1 : from + random.nextInt(to - from + 1);
    }

    /** Asks the one; and the other too, if it is a change that was not refused, or a question by chance. */
    private void call(Method m, Object... arguments) throws ReflectiveOperationException {
        Object answer = ask(one, m, arguments);
        boolean change = CHANGES.contains(" " + m.getName() + " ");
        boolean none = answer.equals(-1) || answer.equals(false);
        if (change && none) {
            refused.merge(m.getName(), 1, Integer::sum);
        } else if (change || random.nextInt(3) == 0) {
            compare(m, answer, ask(other, m, arguments));
        }
        if (m.getName().equals("go") && !none) {
            now = (int) answer;
        } else if (m.getName().equals("sheet") && !none) {
            lastSheet = (int) answer;
        }
    }

    private void ask(Method m, Object... arguments) throws ReflectiveOperationException {
        compare(m, ask(one, m, arguments), ask(other, m, arguments));
    }

    private Object ask(NoddingRafts x, Method m, Object... arguments) throws ReflectiveOperationException {
        try {
            Object answer = m.invoke(x, arguments);
            if (x == one) {
                trace.append(m.getName()).append(List.of(arguments)).append(" -> ").append(answer).append('\n');
            }
            return answer;
        } catch (InvocationTargetException e) {
            trace.append(m.getName()).append(List.of(arguments)).append(" threw ").append(e.getCause()).append('\n');
            tell("it never throws");
            return "thrown";
        }
    }

    private void compare(Method m, Object answer, Object otherAnswer) {
        answers++;
        if (!answer.equals(otherAnswer)) {
            tell("its twin answered " + otherAnswer + " to " + m.getName());
        }
    }

    private void tell(String what) {
        wrong++;
        String all = trace.toString();
        System.out.println("seed " + seed + ":\n" + all.substring(Math.max(0, all.length() - 3000)) + "    " + what);
    }
}
