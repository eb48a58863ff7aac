import java.io.IOException;
import java.nio.file.Files;
import java.nio.file.Path;
import java.util.ArrayList;
import java.util.List;
import java.util.regex.Matcher;
import java.util.regex.Pattern;
import java.util.spi.ToolProvider;

/**
 * The examples of README.md: each is made into a method, each call of it into a check of the answer behind its arrow, and
 * all of them are compiled and run; run from the project's folder.
 */
public final class ReadmeTest {
    private static final Pattern CALL = Pattern.compile("(x\\.\\w+\\(.*\\));\\s*// -> (-?\\w+)(:.*)?");
    private static int wrong = 0;
    private static int checked = 0;

    public static void main(String[] args) throws Exception {
        String readme = Files.readString(Path.of("README.md"));
        faceIsNamed(readme);
        Path folder = Files.createTempDirectory("readme");
        try {
            run(compile(examples(readme), folder));
        } finally {
            remove(folder);
        }
        System.out.println(checked + " answers, " + wrong + " wrong");
        if (wrong != 0 || checked == 0) {
            System.exit(1);
        }
    }

    public static void due(String call, Object got, Object want) {
        checked++;
        if (!got.equals(want)) {
            wrong++;
            System.out.println("README.md: " + call + " answers " + got + ", not " + want);
        }
    }

    private static void faceIsNamed(String readme) {
        for (var m : NoddingRafts.class.getDeclaredMethods()) {
            if (java.lang.reflect.Modifier.isPublic(m.getModifiers()) && !readme.contains("`" + m.getName() + "`")) {
                wrong++;
                System.out.println("README.md doesn't name " + m.getName());
            }
        }
    }

    private static String examples(String readme) {
        StringBuilder out = new StringBuilder("public final class Examples {\n");
        List<String> names = new ArrayList<>();
        Matcher block = Pattern.compile("(?s)```java\n(.*?)```").matcher(readme);
        while (block.find()) {
            if (block.group(1).startsWith("static")) {
                out.append(block.group(1));
                continue;
            }
            names.add("example" + names.size());
            out.append("static void ").append(names.get(names.size() - 1)).append("() {\n");
            for (String line : block.group(1).split("\n")) {
                out.append(checking(line)).append('\n');
            }
            out.append("}\n");
        }
        out.append("public static void main(String[] args) {\n");
        for (String name : names) {
            out.append(name).append("();\n");
        }
        return out.append("}\n}\n").toString();
    }

    private static String checking(String line) {
        Matcher call = CALL.matcher(line);
        if (!call.matches()) {
            if (line.contains("//")) {
                wrong++;
                System.out.println("README.md: no answer can be read from: " + line);
            }
            return line;
        }
        return "ReadmeTest.due(\"" + call.group(1) + "\", " + call.group(1) + ", " + call.group(2) + ");";
    }

    private static Class<?> compile(String source, Path folder) throws Exception {
        Path file = folder.resolve("Examples.java");
        Files.writeString(file, source);
        String classes = System.getProperty("java.class.path");
        int code = ToolProvider.findFirst("javac").orElseThrow().run(System.out, System.out, "-cp", classes, "-d",
            folder.toString(), file.toString());
        if (code != 0) {
            throw new IllegalStateException("the examples of README.md don't compile");
        }
        var loader = new java.net.URLClassLoader(new java.net.URL[] {folder.toUri().toURL()},
            ReadmeTest.class.getClassLoader());
        return loader.loadClass("Examples");
    }

    private static void run(Class<?> examples) throws ReflectiveOperationException {
        examples.getMethod("main", String[].class).invoke(null, (Object) new String[0]);
    }

    private static void remove(Path folder) throws IOException {
        try (var files = Files.list(folder)) {
            for (Path file : files.toList()) {
                Files.delete(file);
            }
        }
        Files.delete(folder);
    }
}
