import java.io.IOException;
import java.nio.file.Files;
import java.nio.file.Path;

/** What the tests of the document's edges share: the sentence that is tested, and the answers that are due. */
final class Due {
    static final int BAD = -1, STATE = -2, FULL = -3, NONE = -9, NO = -1000000;
    /** Numbers far beyond all that may be told, where sums and shifts wrap around. */
    static final int[] FAR = {Integer.MIN_VALUE, Integer.MIN_VALUE + 1, -65536, -257, -256, -33, -32, -10, -9, -3, -2, -1,
        256, 257, 65536, Integer.MAX_VALUE - 1, Integer.MAX_VALUE};

    private static final Path DOC = Path.of("../shared/DOC.md");
    private static String doc = "";
    private static String sentence = "";
    private static int sentences = 0;
    private static int wrong = 0;

    private Due() {
    }

    /** The words that are tested from here on; they must stand in the document. */
    static void sentence(String words) {
        sentence = words;
        sentences++;
        if (!document().contains(words)) {
            wrong++;
            System.out.println("\"" + words + "\" does not stand in the document");
        }
    }

    private static String document() {
        if (doc.isEmpty()) {
            try {
                doc = Files.readString(DOC).replaceAll("\\s+", " ");
            } catch (IOException e) {
                throw new IllegalStateException("the document can't be read", e);
            }
        }
        return doc;
    }

    static void due(String call, long got, long want) {
        if (got != want) {
            wrong++;
            System.out.println("\"" + sentence + "\": " + call + " answered " + got + ", due is " + want);
        }
    }

    static MossPromises type(MossPromises x, String text) {
        for (int i = 0; i < text.length(); i++) {
            x.type(text.charAt(i));
        }
        return x;
    }

    /** A new object that has read a text without fault. */
    static MossPromises told(String text) {
        MossPromises x = type(new MossPromises(), text);
        due("moss() of " + text, x.moss(), text.chars().filter(letter -> letter == ';').count());
        return x;
    }

    static void fault(String text, int place) {
        due("moss() of " + text, type(new MossPromises(), text).moss(), -10 - place);
    }

    static MossPromises years(MossPromises x, int n) {
        for (int i = 0; i < n; i++) {
            x.year();
        }
        return x;
    }

    static MossPromises cuts(MossPromises x, int c, int n) {
        for (int i = 0; i < n; i++) {
            x.cuts(c);
        }
        return x;
    }

    static MossPromises sees(MossPromises x, int... words) {
        for (int word : words) {
            x.sees(word);
        }
        return x;
    }

    static String times(String part, int n) {
        return part.repeat(n);
    }

    static void end() {
        System.out.println(sentences + " sentences, " + (wrong == 0 ? "all answers are as due" : wrong + " faults"));
        if (wrong != 0) {
            System.exit(1);
        }
    }
}
