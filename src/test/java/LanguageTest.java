import java.lang.reflect.Constructor;
import java.lang.reflect.Field;
import java.lang.reflect.Method;
import java.lang.reflect.Modifier;
import java.nio.file.Files;
import java.nio.file.Path;
import java.util.Arrays;
import java.util.Set;
import java.util.TreeSet;
import java.util.regex.Matcher;
import java.util.regex.Pattern;

/** The face is the document's and no more, and the source keeps to what can be seen of LANGUAGE.md by its words. */
public final class LanguageTest {
    private static final String FACE = "sheet(int,int,int) set(int,int,int) copy(int,int,int,int,int) drop(int) "
        + "feed(long,int) read() fault() eye(int,int) all(int) basis(int,int) reading(int,int,int) unread(int) fill(int) "
        + "fixed(int) fewest() met(int,int,int) cost(int) hear(int,int,int) now(int,int,int) tick(int) says(int,int) "
        + "settles(int) choose(int,int) narrow() fills(int) kind(int) as(int,int) ask(int,int) trace(int) count(int) status()";
    private static int wrong = 0;

    private static void check(String what, boolean fine) {
        if (!fine) {
            wrong++;
            System.out.println("not so: " + what);
        }
    }

    private static void face() {
        Set<String> due = new TreeSet<>(Arrays.asList(FACE.split(" ")));
        Set<String> names = new TreeSet<>();
        Set<String> seen = new TreeSet<>();
        for (String s : due) {
            names.add(s.substring(0, s.indexOf('(')));
        }
        for (Method m : TiedViews.class.getDeclaredMethods()) {
            if (Modifier.isPublic(m.getModifiers())) {
                String form = m.toGenericString();
                seen.add(m.getName() + form.substring(form.indexOf('(')));
                check(m + " answers an int", m.getReturnType() == int.class);
            } else {
                check(m + " is private", Modifier.isPrivate(m.getModifiers()));
            }
        }
        check("the face " + seen, seen.equals(due));
        for (Class<?> c : TiedViews.class.getDeclaredClasses()) {
            check(c + " is static", Modifier.isStatic(c.getModifiers()));
            check(c + " is not public", !Modifier.isPublic(c.getModifiers()));
            check(c + " has some twenty fields", fields(c) <= 20);
            for (Method m : c.getDeclaredMethods()) {
                check(m + " bears no public name", !names.contains(m.getName()));
            }
        }
        for (Method m : TiedViews.class.getDeclaredMethods()) {
            check(m + " bears no public name", Modifier.isPublic(m.getModifiers()) || !names.contains(m.getName()));
        }
        Constructor<?>[] made = TiedViews.class.getDeclaredConstructors();
        check("one public constructor", made.length == 1 && Modifier.isPublic(made[0].getModifiers()));
        check("final", Modifier.isFinal(TiedViews.class.getModifiers()));
        check("twelve classes", TiedViews.class.getDeclaredClasses().length <= 11);
        for (Field f : TiedViews.class.getDeclaredFields()) {
            boolean constant = Set.of("NONE", "BAD", "STATE", "FULL").contains(f.getName());
            check(f + " is private", constant || Modifier.isPrivate(f.getModifiers()));
            check(f + " is final if static", !Modifier.isStatic(f.getModifiers()) || Modifier.isFinal(f.getModifiers()));
        }
    }

    private static int fields(Class<?> c) {
        int n = 0;
        for (Field f : c.getDeclaredFields()) {
            n += Modifier.isStatic(f.getModifiers()) ? 0 : 1;
        }
        return n;
    }

    private static void source() throws Exception {
        String text = Files.readString(Path.of("src/main/java/TiedViews.java"));
        String code = text.replaceAll("(?s)/\\*.*?\\*/", "").replaceAll("//[^\n]*", "");
        String[] words = {"throw", "throws", "try", "catch", "synchronized", "assert", "package", "->", "::", "Exact",
            "float", "double", "var", "yield", "protected"};
        for (String w : words) {
            boolean word = Character.isLetter(w.charAt(0));
            check("no " + w, !Pattern.compile(word ? "\\b" + w + "\\b" : Pattern.quote(w)).matcher(code).find());
        }
        Matcher m = Pattern.compile("import ([^;]*);").matcher(code);
        while (m.find()) {
            check("import " + m.group(1), Set.of("java.util.Arrays").contains(m.group(1)));
        }
        for (char c : text.toCharArray()) {
            check("sign " + (int) c, c < 128);
        }
        methods(code);
    }

    private static void methods(String code) {
        String[] lines = code.split("\n");
        int begin = -1;
        int indent = 0;
        for (int i = 0; i < lines.length; i++) {
            Matcher m = Pattern.compile("^( {4}| {8})(?! )[^=;]*\\(([^)]*)\\) \\{$").matcher(lines[i]);
            if (m.find()) {
                begin = i;
                indent = m.group(1).length();
                check(lines[i] + " takes seven at most", m.group(2).split(",").length <= 7);
            } else if (begin >= 0 && lines[i].equals(" ".repeat(indent) + "}")) {
                check(lines[begin] + " has some sixty lines", i - begin <= 60);
                begin = -1;
            }
        }
    }

    public static void main(String[] args) throws Exception {
        face();
        source();
        System.out.println("language: " + wrong + " wrong");
        if (wrong != 0) {
            System.exit(1);
        }
    }
}
