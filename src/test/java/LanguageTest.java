import java.lang.reflect.Array;
import java.lang.reflect.Constructor;
import java.lang.reflect.Field;
import java.lang.reflect.Method;
import java.lang.reflect.Modifier;
import java.io.PrintWriter;
import java.io.StringWriter;
import java.nio.file.Files;
import java.nio.file.Path;
import java.util.ArrayDeque;
import java.util.ArrayList;
import java.util.Deque;
import java.util.HashMap;
import java.util.HashSet;
import java.util.IdentityHashMap;
import java.util.List;
import java.util.Map;
import java.util.Set;
import java.util.TreeMap;
import java.util.TreeSet;
import java.util.regex.Matcher;
import java.util.regex.Pattern;
import java.util.spi.ToolProvider;

/** What of LANGUAGE.md can be seen from the source and the compiled class; run from the project's folder. */
public final class LanguageTest {
    private static final String FACE = "reading(int,int)int drift(int,int,int)int known(int,int,int)int "
        + "feed(int,int,int,int,int)int end(int)boolean fault()int sheet()int force(int,int)int why(int,int)int "
        + "raft(int,int)int lane(int,int,int)int lay(int,int,int)int base(int)boolean rated(int)boolean go(int)int "
        + "told(int,int)int booked(int,int)int right(int,int,int)int owed(int,int)int would(int,int)int "
        + "beach(int,int,int,boolean)int parts(int,int)int load(int,int,int)int send(int,int,int,int,int)int "
        + "boat(int,int)int want(int,int)int forget()int window(int,int,int)int plan(int,int)int place(int)int "
        + "clear()int laying(int,int,int,int,int)int blame(int,int)int test(int,int,boolean)int next()int count(int)int";
    private static int wrong = 0;

    public static void main(String[] args) throws Exception {
        String source = Files.readString(Path.of("src/main/java/NoddingRafts.java"));
        face();
        classes();
        words(bare(source));
        lengths(source);
        depth();
        room();
        System.out.println(wrong == 0 ? "the rules that can be seen are kept" : wrong + " rules are not kept");
        if (wrong != 0) {
            System.exit(1);
        }
    }

    private static void must(boolean holds, String rule) {
        if (!holds) {
            wrong++;
            System.out.println("not kept: " + rule);
        }
    }

    private static void face() throws ReflectiveOperationException {
        Class<?> c = NoddingRafts.class;
        must(Modifier.isPublic(c.getModifiers()) && Modifier.isFinal(c.getModifiers()), "1: public and final");
        TreeSet<String> seen = new TreeSet<>();
        List<String> names = new ArrayList<>();
        for (Method m : c.getDeclaredMethods()) {
            if (Modifier.isPublic(m.getModifiers())) {
                StringBuilder b = new StringBuilder(m.getName()).append('(');
                for (Class<?> p : m.getParameterTypes()) {
                    b.append(b.charAt(b.length() - 1) == '(' ? "" : ",").append(p.getName());
                }
                seen.add(b.append(')').append(m.getReturnType().getName()).toString());
                names.add(m.getName());
            }
        }
        must(seen.equals(new TreeSet<>(List.of(FACE.split(" ")))), "1: the methods of the face: " + seen);
        for (Class<?> inside : all()) {
            for (Method m : inside.getDeclaredMethods()) {
                boolean face = inside == c && Modifier.isPublic(m.getModifiers());
                must(face || Modifier.isPrivate(m.getModifiers()), "1: private: " + m);
                must(face || !names.contains(m.getName()), "1: a name of the face: " + m);
                must(m.getParameterCount() <= 7, "11: seven parameters: " + m);
            }
        }
        for (Field f : c.getDeclaredFields()) {
            boolean face = f.getName().equals("NONE") || f.getName().equals("VOID");
            must(face ? Modifier.isPublic(f.getModifiers()) : Modifier.isPrivate(f.getModifiers()), "1: " + f);
        }
        Constructor<?>[] made = c.getDeclaredConstructors();
        must(made.length == 1 && Modifier.isPublic(made[0].getModifiers()), "1: one public constructor");
        must(c.getField("NONE").getInt(null) == -1 && c.getField("VOID").getInt(null) == Integer.MIN_VALUE, "1: NONE, VOID");
    }

    private static List<Class<?>> all() {
        List<Class<?>> out = new ArrayList<>(List.of(NoddingRafts.class));
        out.addAll(List.of(NoddingRafts.class.getDeclaredClasses()));
        return out;
    }

    private static void classes() {
        must(all().size() <= 12, "11: twelve classes");
        for (Class<?> c : all()) {
            must(c == NoddingRafts.class || Modifier.isStatic(c.getModifiers()), "2: static: " + c);
            must(c.getDeclaredClasses().length == 0 || c == NoddingRafts.class, "2: nested once: " + c);
            int fields = 0;
            for (Field f : c.getDeclaredFields()) {
                boolean still = Modifier.isStatic(f.getModifiers());
                must(!still || Modifier.isFinal(f.getModifiers()), "5: static and not final: " + f);
                fields += still ? 0 : 1;
            }
            must(fields <= 20, "11: twenty fields: " + c + " has " + fields);
        }
    }

    /** The source without its comments, and with its texts and signs emptied. */
    private static String bare(String source) {
        return source.replaceAll("(?s)/\\*.*?\\*/", "").replaceAll("//[^\n]*", "")
            .replaceAll("\"[^\"\n]*\"", "\"\"").replaceAll("'[^'\n]*'", "' '");
    }

    private static void words(String source) {
        String[] banned = {"\\bthrow\\b", "\\btry\\b", "\\bcatch\\b", "\\bsynchronized\\b", "\\bassert\\b", "->", "::",
            "Exact\\b", "\\bprotected\\b", "\\bpackage\\b", "\\bnew \\w+\\([^)]*\\) \\{", "\\bstatic \\{", "@\\w",
            "\\bhashCode\\b", "\\btoString\\b", "\\bMap\\b", "\\bvar\\b", "\"\" \\+", "\\+ \"\"", "\\bthread",
            "System\\.(?!arraycopy)", "\\bdouble\\b", "\\bfloat\\b"};
        for (String word : banned) {
            must(!Pattern.compile(word).matcher(source).find(), "3, 4, 6: " + word);
        }
        Matcher imports = Pattern.compile("import ([\\w.*]+);").matcher(source);
        while (imports.find()) {
            must(List.of("java.util.Arrays", "java.util.ArrayList", "java.util.List").contains(imports.group(1)),
                "4: " + imports.group(1));
        }
        Matcher arrays = Pattern.compile("Arrays\\.(\\w+)").matcher(source);
        while (arrays.find()) {
            must(List.of("copyOf", "copyOfRange", "fill").contains(arrays.group(1)), "4: Arrays." + arrays.group(1));
        }
        for (int i = 0; i < source.length(); i++) {
            must(source.charAt(i) < 128, "4: signs 1 to 127");
        }
    }

    private static void lengths(String source) {
        String[] lines = source.split("\n");
        int start = -1;
        for (int i = 0; i < lines.length; i++) {
            if (lines[i].matches(" {4}( {4})?(public|private) .*\\) \\{")) {
                start = i;
            } else if (start >= 0 && lines[i].matches(" {4}( {4})?\\}") && indent(lines[i]) == indent(lines[start])) {
                must(i - start < 60, "11: sixty lines: " + lines[start].strip());
                start = -1;
            }
        }
    }

    private static int indent(String line) {
        return line.length() - line.stripLeading().length();
    }

    /** Of each method (class and name) those that it calls, as javap tells. */
    private static Map<String, Set<String>> calls() throws Exception {
        Path folder = Path.of(NoddingRafts.class.getProtectionDomain().getCodeSource().getLocation().toURI());
        Map<String, Set<String>> calls = new TreeMap<>();
        for (Class<?> c : all()) {
            StringWriter out = new StringWriter();
            ToolProvider.findFirst("javap").orElseThrow().run(new PrintWriter(out), new PrintWriter(out), "-c", "-p",
                folder.resolve(c.getName() + ".class").toString());
            String method = "";
            for (String line : out.toString().split("\\R")) {
                Matcher head = Pattern.compile("  \\S.*?([\\w$]+)\\(.*\\);").matcher(line);
                Matcher call = Pattern.compile(".*invoke.*// Method ([^:]+):.*").matcher(line);
                if (head.matches()) {
                    method = c.getName() + "." + head.group(1);
                    calls.put(method, new TreeSet<>());
                } else if (call.matches() && !method.isEmpty()) {
                    String called = call.group(1).replace('/', '.').replace("\"", "");
                    called = called.contains(".") ? called : c.getName() + "." + called;
                    calls.get(method).add(called.replace(".<init>", "." + called.replaceAll("\\.<init>", "")));
                }
            }
        }
        return calls;
    }

    private static Set<String> reached(String from, Map<String, Set<String>> calls) {
        Set<String> seen = new HashSet<>();
        Deque<String> left = new ArrayDeque<>(List.of(from));
        while (!left.isEmpty()) {
            for (String next : calls.getOrDefault(left.pop(), Set.of())) {
                if (seen.add(next)) {
                    left.push(next);
                }
            }
        }
        return seen;
    }

    /** How deep calls go from a method on, methods that lead back to one another counted as one. */
    private static int depth(String method, Map<String, Set<String>> calls, Map<String, Integer> known) {
        Integer before = known.get(method);
        if (before != null) {
            return before;
        }
        Set<String> ring = new TreeSet<>(List.of(method));
        for (String other : reached(method, calls)) {
            if (reached(other, calls).contains(method)) {
                ring.add(other);
            }
        }
        int deepest = 0;
        for (String one : ring) {
            for (String next : calls.getOrDefault(one, Set.of())) {
                deepest = ring.contains(next) ? deepest : Math.max(deepest, depth(next, calls, known));
            }
        }
        for (String one : ring) {
            known.put(one, deepest + 1);
        }
        return deepest + 1;
    }

    private static void depth() throws Exception {
        Map<String, Set<String>> calls = calls();
        Map<String, Integer> known = new HashMap<>();
        int deepest = 0;
        for (String method : calls.keySet()) {
            int depth = depth(method, calls, known);
            must(depth <= 8, "11: calls eight deep: " + method + " goes " + depth);
            deepest = Math.max(deepest, depth);
        }
        System.out.println(calls.size() + " methods, calls " + deepest + " deep");
    }

    private static int objects;
    private static long elements;

    private static void measure(Object o, Map<Object, Boolean> seen) throws ReflectiveOperationException {
        if (o == null || seen.put(o, true) != null) {
            return;
        }
        objects++;
        if (o.getClass().isArray()) {
            elements += Array.getLength(o);
            for (int i = 0; i < Array.getLength(o) && !o.getClass().getComponentType().isPrimitive(); i++) {
                measure(Array.get(o, i), seen);
            }
            return;
        }
        for (Field f : o.getClass().getDeclaredFields()) {
            if (!Modifier.isStatic(f.getModifiers())) {
                f.setAccessible(true);
                elements++;
                if (!f.getType().isPrimitive()) {
                    measure(f.get(o), seen);
                }
            }
        }
    }

    /** Objects are made once and used again, so that one that was used is hardly greater than a new one. */
    private static void room() throws ReflectiveOperationException {
        NoddingRafts x = new NoddingRafts();
        measure(x, new IdentityHashMap<>());
        must(objects <= 150 && elements <= 20000, "12: a new object's room: " + objects + " and " + elements);
        System.out.println("a new object: " + objects + " objects and arrays, " + elements + " fields and elements");
        for (int i = 0; i < 12; i++) {
            x.end(0);
            for (int j = 0; j < 20; j++) {
                x.feed(0x20202020, 0x20202020, 0x20202020, 0x20202020, 0x20202020);
            }
            x.sheet();
        }
        x.raft(20, 8);
        x.lay(0, 0, 5000);
        x.go(80);
        x.right(79, 80, 0);
        objects = 0;
        elements = 0;
        measure(x, new IdentityHashMap<>());
        must(objects <= 150 && elements <= 24000, "12: a used object's room: " + objects + " and " + elements);
    }
}
