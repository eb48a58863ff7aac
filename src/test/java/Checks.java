import java.io.IOException;
import java.lang.annotation.Retention;
import java.lang.annotation.RetentionPolicy;
import java.lang.reflect.Method;
import java.nio.file.Files;
import java.nio.file.Path;
import java.util.ArrayList;
import java.util.Arrays;
import java.util.Comparator;
import java.util.List;
import java.util.regex.Matcher;
import java.util.regex.Pattern;

/** What the tests by hand share: the object under test, what is due, ways to tell it much in few words. */
class Checks {
    static final int NONE = NoddingRafts.NONE;
    static final int VOID = NoddingRafts.VOID;
    static final int MIN = Integer.MIN_VALUE;
    static final int MAX = Integer.MAX_VALUE;
    /** READINGS that are used often: HEIGHT 10 and 0, PERIOD 8, WAY 0. */
    static final int SEA10 = 10081;
    static final int FLAT = 81;

    /** The words of the document that a test holds the program to; promise 0 stands for the Terms. */
    @Retention(RetentionPolicy.RUNTIME)
    @interface Says {
        String[] value();

        int promise() default 0;
    }

    NoddingRafts x;
    private int wrong = 0;
    private int checked = 0;

    void due(long got, long want) {
        checked++;
        if (got != want) {
            wrong++;
            StackTraceElement[] trace = new Throwable().getStackTrace();
            System.out.println("line " + trace[1].getLineNumber() + ": " + got + ", due is " + want);
        }
    }

    void due(boolean got, boolean want) {
        checked++;
        if (got != want) {
            wrong++;
            StackTraceElement[] trace = new Throwable().getStackTrace();
            System.out.println("line " + trace[1].getLineNumber() + ": " + got + ", due is " + want);
        }
    }

    // ---- running

    /** Runs each method of the tests that has no parameters, each on a new object; ends the program if one is wrong. */
    final void runAll() throws ReflectiveOperationException {
        List<Method> tests = tests();
        for (Method m : tests) {
            x = new NoddingRafts();
            int before = wrong;
            m.invoke(this);
            if (wrong > before) {
                System.out.println("    in " + m.getName() + quotes(m));
            }
        }
        System.out.println(tests.size() + " tests, " + checked + " answers, " + wrong + " wrong");
        if (wrong != 0 || tests.isEmpty()) {
            System.exit(1);
        }
    }

    private List<Method> tests() {
        List<Method> tests = new ArrayList<>();
        for (Method m : getClass().getDeclaredMethods()) {
            if (m.getName().startsWith("promise") || m.isAnnotationPresent(Says.class)) {
                tests.add(m);
            }
        }
        tests.sort(Comparator.comparing(Method::getName));
        return tests;
    }

    private static String quotes(Method m) {
        Says says = m.getAnnotation(Says.class);
        return says == null ? "" : ": " + (says.promise() == 0 ? "Terms" : "promise " + says.promise())
            + ", " + Arrays.toString(says.value());
    }

    /**
     * Tells which words of the document no test quotes, and which quotes are not in it. It only tells, so that a
     * document that has changed does not look like a program that is wrong.
     */
    final void compareWithDocument(boolean terms) throws IOException {
        Path path = Path.of("../shared/DOC.md");
        if (!Files.exists(path)) {
            System.out.println("no document at " + path);
            return;
        }
        String document = Files.readString(path);
        for (int promise = terms ? 0 : 1; promise <= (terms ? 0 : 37); promise++) {
            String part = promise == 0 ? part(document, "## Terms", "The constants:")
                : part(document, "## Promise " + promise + ":", "## ");
            boolean[] quoted = new boolean[part.length()];
            for (Method m : tests()) {
                Says says = m.getAnnotation(Says.class);
                if (says != null && says.promise() == promise) {
                    mark(m, says, part, quoted);
                }
            }
            tellUnquoted(promise, part, quoted);
        }
    }

    private static String part(String document, String from, String to) {
        int start = document.indexOf(from);
        int body = start < 0 ? -1 : document.indexOf('\n', start);
        int end = body < 0 ? -1 : document.indexOf(to, body);
        if (end < 0) {
            System.out.println("not in the document: " + from);
            return "";
        }
        String text = document.substring(body, end).replaceAll("```(text)?", " ").replaceAll("==== \\d\\.", " ");
        return text.replaceFirst("^\\s*`[^`]*`:", " ").replaceAll("\\s+", " ");
    }

    private static void mark(Method m, Says says, String part, boolean[] quoted) {
        for (String quote : says.value()) {
            Matcher found = Pattern.compile(Pattern.quote(quote)).matcher(part);
            boolean any = false;
            while (found.find()) {
                Arrays.fill(quoted, found.start(), found.end(), true);
                any = true;
            }
            if (!any) {
                System.out.println(m.getName() + " quotes what promise " + says.promise() + " does not say: " + quote);
            }
        }
    }

    private static void tellUnquoted(int promise, String part, boolean[] quoted) {
        StringBuilder rest = new StringBuilder();
        for (int i = 0; i < part.length(); i++) {
            rest.append(quoted[i] ? '\n' : part.charAt(i));
        }
        for (String piece : rest.toString().split("\n+")) {
            if (piece.matches(".*[A-Za-z0-9].*")) {
                System.out.println((promise == 0 ? "Terms" : "promise " + promise) + ", no test quotes: " + piece.strip());
            }
        }
    }

    // ---- telling much in few words

    /** The TEXT becomes this one, whatever it was. */
    void text(String text) {
        x.end(0);
        StringBuilder b = new StringBuilder(text);
        while (b.length() % 20 != 0) {
            b.append(' ');
        }
        for (int i = 0; i < b.length(); i += 20) {
            int[] n = new int[5];
            for (int j = 0; j < 20; j++) {
                n[j / 4] = n[j / 4] << 8 | b.charAt(i + j) & 255;
            }
            x.feed(n[0], n[1], n[2], n[3], n[4]);
        }
        x.end(text.length());
    }

    int faultOf(String text) {
        text(text);
        return x.fault();
    }

    int sheetOf(String text) {
        text(text);
        return x.sheet();
    }

    void inForce(String text, int spell) {
        x.force(sheetOf(text), spell);
    }

    /** READINGS for every ninth SPELL, so that all from .. to are KNOWN alike. */
    void sea(int from, int to, int what) {
        for (int spell = from; spell <= to; spell += 9) {
            x.reading(spell, what);
        }
    }

    static int what(int height, int period, int way) {
        return height * 1000 + period * 10 + way + 1;
    }

    /** A raft that is LAID as it comes; its number. */
    int laid(int size, int suit, int place, int strength) {
        int raft = x.raft(size, suit);
        x.lay(raft, place, strength);
        return raft;
    }

    /** Makes a BOAT have one more of a PART. */
    void equip(int boat, int part) {
        x.parts(part, 1);
        x.load(boat, part, 1);
    }

    /** A BOAT, with what it needs, does a JOB at a raft in the next SPELL. */
    void trip(int boat, int raft, int job, int strength) {
        equip(boat, job < 3 ? 0 : job - 2);
        x.send(boat, raft, job, 1, strength);
        x.go(1);
    }

    void goTo(int spell) {
        while (x.count(0) < spell) {
            x.go(Math.min(80, spell - x.count(0)));
        }
    }
}
