import java.io.IOException;
import java.io.UncheckedIOException;
import java.nio.file.Files;
import java.nio.file.Path;

/** Tests of single sentences of the document: each is run under the words that it tests. */
final class Sentences {
    static final int LEAST = Integer.MIN_VALUE, MOST = Integer.MAX_VALUE;

    private static final Path DOCUMENT = Path.of("../shared/DOC.md");

    private static String[] sections;
    private static String words;

    private Sentences() {
    }

    /** The words stand in the section that begins with the title, or the test is of another document. */
    static void test(String title, String quote, Runnable test) {
        words = title + ", '" + quote + "': ";
        if (Files.exists(DOCUMENT)) {
            Due.holds(words + "stands in the document", sectionOf(title).contains(plain(quote)));
        }
        test.run();
    }

    static void due(String call, int got, int want) {
        Due.due(words + call, got, want);
    }

    static void same(String call, String got, String want) {
        Due.holds(words + call + "\n  is  " + got + "\n  due " + want, got.equals(want));
    }

    /** Numbers just out of bounds, and so far out that a sum or a product would wrap around. */
    static int[] outside(int low, int high) {
        return new int[] {LEAST, -(1 << 30), low - 1, high + 1, 1 << 30, MOST};
    }

    /** Numbers of which there is no such thing; some would wrap around to one as an index. */
    static int[] unknown(int count) {
        return new int[] {LEAST, LEAST + 1, -(1 << 30), -4, -3, -2, -1, count, count + 1, 1 << 28, 1 << 29, 1 << 30,
            1 << 30 | 1 << 29, MOST};
    }

    private static String sectionOf(String title) {
        if (sections == null) {
            sections = readDocument().split("## ");
        }
        for (String section : sections) {
            if (section.startsWith(title + ":") || section.startsWith(title + " ")) {
                return section;
            }
        }
        return "";
    }

    private static String readDocument() {
        try {
            return plain(Files.readString(DOCUMENT));
        } catch (IOException e) {
            throw new UncheckedIOException(e);
        }
    }

    private static String plain(String text) {
        return text.replaceAll("\\s+", " ");
    }
}
