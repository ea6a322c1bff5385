import java.lang.reflect.Method;
import java.lang.reflect.Modifier;
import java.nio.file.DirectoryStream;
import java.nio.file.Files;
import java.nio.file.Path;
import java.util.HashSet;
import java.util.Set;
import java.util.regex.Matcher;
import java.util.regex.Pattern;

/** README.md's example is run line by line, and the page must name all calls and tests; run from the project's root. */
public final class ReadmeHolds {
    private static final Pattern TEXT = Pattern.compile("String text = \"([^\"]*)\";");
    private static final Pattern CALL = Pattern.compile("x\\.(\\w+)\\(([-0-9, ]*)\\); +// (-?\\d+)(:.*)");
    private static final Set<String> run = new HashSet<>();
    private static int wrong = 0;

    private static void check(boolean holds, String what) {
        if (!holds) {
            wrong++;
            System.out.println(what);
        }
    }

    private static long answer(MossPromises x, String name, String numbers) throws Exception {
        String[] parts = numbers.isBlank() ? new String[0] : numbers.split(",");
        Class<?>[] types = new Class<?>[parts.length];
        Object[] values = new Object[parts.length];
        for (int i = 0; i < parts.length; i++) {
            types[i] = int.class;
            values[i] = Integer.valueOf(parts[i].trim());
        }
        return ((Number) MossPromises.class.getMethod(name, types).invoke(x, values)).longValue();
    }

    private static void example(String code) throws Exception {
        MossPromises x = new MossPromises();
        String text = "";
        for (String line : code.split("\n")) {
            Matcher told = TEXT.matcher(line);
            Matcher call = CALL.matcher(line);
            if (told.matches()) {
                text = told.group(1);
            } else if (call.matches()) {
                run.add(call.group(1));
                long got = answer(x, call.group(1), call.group(2));
                check(got == Long.parseLong(call.group(3)), "answered " + got + ", but README.md says: " + line);
            } else if (line.startsWith("for (") && line.endsWith("x.type(text.charAt(i));")) {
                for (int i = 0; i < text.length(); i++) x.type(text.charAt(i));
            } else {
                check(line.equals("MossPromises x = new MossPromises();"), "not read: " + line);
            }
        }
    }

    private static void names(String page) throws Exception {
        for (Method m : MossPromises.class.getDeclaredMethods()) {
            if (Modifier.isPublic(m.getModifiers())) {
                check(page.contains("`" + m.getName() + "`"), "the page does not name " + m.getName());
            }
        }
        try (DirectoryStream<Path> files = Files.newDirectoryStream(Path.of("src/test/java"), "*.java")) {
            for (Path file : files) {
                String name = file.getFileName().toString().replace(".java", "");
                check(page.contains("`" + name + "`"), "the page does not name the test " + name);
            }
        }
    }

    public static void main(String[] args) throws Exception {
        String page = Files.readString(Path.of("README.md"));
        Matcher code = Pattern.compile("(?s)```java\n(.*?)```").matcher(page);
        while (code.find()) {
            example(code.group(1));
        }
        check(run.size() > 20, "the example calls only " + run);
        names(page);
        System.out.println(wrong == 0 ? "README.md holds" : wrong + " faults in README.md");
        if (wrong != 0) {
            System.exit(1);
        }
    }
}
