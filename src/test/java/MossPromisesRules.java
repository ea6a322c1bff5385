import java.lang.reflect.Constructor;
import java.lang.reflect.Field;
import java.lang.reflect.Method;
import java.lang.reflect.Modifier;
import java.nio.file.Files;
import java.nio.file.Path;
import java.util.Arrays;
import java.util.List;
import java.util.TreeSet;
import java.util.regex.Matcher;
import java.util.regex.Pattern;

/** What of the document's face and of LANGUAGE.md can be seen from outside; run from the project's root. */
public final class MossPromisesRules {
    private static final Path SOURCE = Path.of("src/main/java/MossPromises.java");
    private static final List<String> FACE = List.of(
        "int type(int)", "int clear()", "int moss()", "int person(int,int)", "int promise(int,int)", "int word(int,int)",
        "int cell(int,int)", "int now(int)", "int cuts(int)", "int drains(int)", "int does(int)", "int year()", "int undo()",
        "int left(int,int)", "int lasts(int,int,int)", "int duty(int,int)", "int sees(int)", "int forget()", "int fits()",
        "int likely()", "int kept(int)", "int order(int)", "int drain(int)", "int odds(int,int,int,int)", "int rate(int,int)",
        "int keep(int)", "int back(int)", "int count(int)", "long trace()");
    private static final String[] FORBIDDEN = {
        "\\b(throw|throws|try|catch|synchronized|assert|import|package|protected|instanceof|while\\s*\\(true|for\\s*\\(;;)\\b",
        "->", "::", "\\b(equals|hashCode|toString|getClass)\\b", "\\w+Exact\\b", "\\?\\s*extends", "\\bnew\\s+\\w+\\s*\\([^)]*\\)\\s*\\{"};
    private static int wrong = 0;

    private static void check(boolean holds, String what) {
        if (!holds) {
            wrong++;
            System.out.println(what);
        }
    }

    private static void face() {
        TreeSet<String> methods = new TreeSet<>();
        TreeSet<String> names = new TreeSet<>();
        for (Method m : MossPromises.class.getDeclaredMethods()) {
            if (Modifier.isPrivate(m.getModifiers())) continue;
            methods.add(m.toString().replaceAll("^public | ?MossPromises\\.|final ", " ").trim().replace("  ", " "));
            names.add(m.getName());
        }
        check(methods.equals(new TreeSet<>(FACE)), "the public methods are " + methods);
        for (Method m : MossPromises.class.getDeclaredMethods()) {
            check(!Modifier.isPrivate(m.getModifiers()) || !names.contains(m.getName()), "a private " + m.getName());
        }
        for (Constructor<?> c : MossPromises.class.getDeclaredConstructors()) {
            check(c.toString().equals("public MossPromises()"), "constructor " + c);
        }
        List<String> constants = List.of("BAD", "STATE", "FULL", "NONE", "NO");
        for (Field f : MossPromises.class.getDeclaredFields()) {
            check(Modifier.isPrivate(f.getModifiers()) || constants.contains(f.getName()), "a field not private: " + f);
            check(!Modifier.isStatic(f.getModifiers()) || Modifier.isFinal(f.getModifiers()), "a static field not final: " + f);
        }
        check(Modifier.isFinal(MossPromises.class.getModifiers()), "the class is not final");
        for (Class<?> inner : MossPromises.class.getDeclaredClasses()) {
            check(Modifier.isStatic(inner.getModifiers()), inner + " is not static");
            check(!Modifier.isPublic(inner.getModifiers()), inner + " is public");
            for (Method m : inner.getDeclaredMethods()) {
                check(!names.contains(m.getName()), inner + " bears the name of a public method: " + m.getName());
                check(m.getParameterCount() <= 7, m + " takes too many parameters");
            }
            check(Arrays.stream(inner.getDeclaredFields()).filter(f -> !Modifier.isStatic(f.getModifiers())).count() <= 20,
                inner + " has too many fields");
        }
        check(MossPromises.class.getDeclaredClasses().length < 12, "too many classes");
    }

    private static void source() throws Exception {
        String text = Files.readString(SOURCE);
        check(text.chars().allMatch(ch -> ch < 127), "a sign beyond 126");
        String bare = text.replaceAll("(?s)/\\*.*?\\*/", "").replaceAll("//[^\\n]*", "").replaceAll("'[^']'", "0");
        for (String forbidden : FORBIDDEN) {
            Matcher m = Pattern.compile(forbidden).matcher(bare);
            check(!m.find(), "forbidden: " + forbidden);
        }
        Matcher library = Pattern.compile("\\b(System|Math|Integer|Long|Arrays)\\.\\w+").matcher(bare);
        List<String> allowed = List.of("System.arraycopy", "Math.max", "Math.min", "Integer.bitCount");
        while (library.find()) {
            check(allowed.contains(library.group()), "library: " + library.group());
        }
        int from = 0;
        int line = 0;
        for (String row : bare.split("\n")) {
            line++;
            if (row.matches("( {4}| {8})\\S.*\\) \\{")) from = line;
            if (row.matches("( {4}| {8})\\}") && from > 0) {
                check(line - from <= 60, "the method that ends in line " + line + " is too long");
                from = 0;
            }
        }
    }

    public static void main(String[] args) throws Exception {
        face();
        source();
        System.out.println(wrong == 0 ? "all rules hold" : wrong + " rules do not hold");
        if (wrong != 0) {
            System.exit(1);
        }
    }
}
