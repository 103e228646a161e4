import java.io.File;
import java.lang.reflect.InvocationTargetException;
import java.lang.reflect.Method;
import java.lang.reflect.Modifier;
import java.net.URL;
import java.net.URLClassLoader;
import java.nio.file.Files;
import java.nio.file.Path;
import java.util.regex.Matcher;
import java.util.regex.Pattern;
import java.util.stream.Stream;
import javax.tools.ToolProvider;

/** What README.md says is so: its examples are compiled and run, and it names every call and every test. */
public final class ReadmeTest {
    private static final Pattern BLOCK = Pattern.compile("(?s)```java\n(.*?)```");
    // A call, and behind it the answer that the page tells.
    private static final Pattern TOLD = Pattern.compile("((?:x\\.\\w+|tell)\\(.*\\));\\s*//\\s*(-?\\d+).*");
    private static int wrong = 0;
    private static int answers = 0;

    private static void check(String what, boolean fine) {
        if (!fine) {
            wrong++;
            System.out.println("not so: " + what);
        }
    }

    private static String quoted(String s) {
        return '"' + s.replace("\\", "\\\\").replace("\"", "\\\"") + '"';
    }

    /** Each block a method of its own; what is a method already (it begins with static) stays one. */
    private static String program(String page) {
        StringBuilder code = new StringBuilder("public final class Readme {\n    public static int wrong = 0;\n");
        StringBuilder calls = new StringBuilder();
        Matcher blocks = BLOCK.matcher(page);
        for (int i = 0; blocks.find(); i++) {
            if (blocks.group(1).startsWith("static ")) {
                code.append(blocks.group(1));
                continue;
            }
            calls.append("        example").append(i).append("();\n");
            code.append("    private static void example").append(i).append("() {\n");
            for (String line : blocks.group(1).split("\n")) {
                Matcher told = TOLD.matcher(line);
                if (told.matches()) {
                    answers++;
                    code.append("        due(").append(quoted(told.group(1))).append(", ").append(told.group(1)).append(", ");
                    code.append(told.group(2)).append(");\n");
                } else {
                    check("'" + line + "' makes an object or has an answer", line.startsWith("TiedViews x = new TiedViews("));
                    code.append("        ").append(line).append("\n");
                }
            }
            code.append("    }\n");
        }
        code.append("    private static void due(String call, int got, int want) {\n        if (got != want) {\n");
        code.append("            wrong++;\n            System.out.println(\"README.md: \" + call + \" answered \" + got + ");
        code.append("\", the page says \" + want);\n        }\n    }\n    public static void run() {\n");
        return code.append(calls).append("    }\n}\n").toString();
    }

    private static void examples(String page) throws Exception {
        Path out = Files.createTempDirectory("readme");
        Path source = out.resolve("Readme.java");
        try {
            Files.writeString(source, program(page));
            String classes = System.getProperty("java.class.path");
            int code = ToolProvider.getSystemJavaCompiler().run(null, null, null, "-cp", classes, "-d", out.toString(),
                source.toString());
            check("the examples compile", code == 0);
            if (code == 0) {
                runExamples(out);
            }
        } finally {
            for (File file : out.toFile().listFiles()) {
                file.delete();
            }
            out.toFile().delete();
        }
    }

    private static void runExamples(Path out) throws Exception {
        try (URLClassLoader loader = new URLClassLoader(new URL[] {out.toUri().toURL()}, ReadmeTest.class.getClassLoader())) {
            Class<?> readme = loader.loadClass("Readme");
            readme.getMethod("run").invoke(null);
            wrong += readme.getField("wrong").getInt(null);
        } catch (InvocationTargetException thrown) {
            check("no example throws, but: " + thrown.getCause(), false);
        }
    }

    private static void names(String page) throws Exception {
        for (Method m : TiedViews.class.getDeclaredMethods()) {
            boolean named = Pattern.compile("`" + m.getName() + "[`(]|x\\." + m.getName() + "\\(").matcher(page).find();
            check("the page names " + m.getName(), named || !Modifier.isPublic(m.getModifiers()));
        }
        for (Class<?> c : TiedViews.class.getDeclaredClasses()) {
            check("the page names " + c.getSimpleName(), page.contains("`" + c.getSimpleName() + "`"));
        }
        try (Stream<Path> tests = Files.list(Path.of("src/test/java"))) {
            for (Path test : tests.toList()) {
                String name = test.getFileName().toString().replace(".java", "");
                check("the page names " + name, page.contains("`" + name + "`"));
            }
        }
        Matcher named = Pattern.compile("`(\\w+Test)`").matcher(page);
        while (named.find()) {
            check(named.group(1) + " is there", Files.exists(Path.of("src/test/java", named.group(1) + ".java")));
        }
    }

    public static void main(String[] args) throws Exception {
        String page = Files.readString(Path.of("README.md"));
        examples(page);
        names(page);
        check("some answers are told", answers > 40);
        System.out.println("readme: " + answers + " answers, " + wrong + " wrong");
        if (wrong != 0) {
            System.exit(1);
        }
    }
}
