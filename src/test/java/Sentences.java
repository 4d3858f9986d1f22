import java.io.IOException;
import java.nio.file.Files;
import java.nio.file.Path;
import java.util.Arrays;

/** The document's sentences, by the promise in which they stand (0: the Terms), and which of them are tested. */
final class Sentences {
    static final int TERMS = 0;
    private static final int PROMISES = 44;
    private static final Path DOCUMENT = Path.of("../shared/DOC.md");
    private static final String[] SECTIONS = new String[PROMISES + 1];
    private static final int[] TESTED = new int[PROMISES + 1];

    private Sentences() { }

    static void read() throws IOException {
        Arrays.fill(SECTIONS, "");
        for (String section : Files.readString(DOCUMENT).split("\n## ")) {
            String bare = withoutLineEnds(section);
            if (bare.startsWith("Terms ")) {
                SECTIONS[TERMS] = bare;
            } else if (bare.startsWith("Promise ")) {
                int promise = Integer.parseInt(bare.substring("Promise ".length(), bare.indexOf(':')));
                // behind the name of the promise stands its call, then what it says
                SECTIONS[promise] = bare.substring(bare.indexOf("`: ") + 3);
            }
        }
    }

    private static String withoutLineEnds(String text) {
        return text.replaceAll("\\s+", " ");
    }

    /** A test of a sentence that names a boundary case; what is quoted must stand in the document. */
    static void sentence(int promise, String quote, Runnable test) {
        Check.heading((promise == TERMS ? "Terms" : "Promise " + promise) + " [" + quote + "] ");
        Check.isTrue("stands in the document", SECTIONS[promise].contains(quote));
        int before = Check.answers();
        test.run();
        Check.isTrue("is tested", Check.answers() > before);
        TESTED[promise]++;
        Check.heading("");
    }

    static void eachPromiseIsTested() {
        for (int promise = 0; promise <= PROMISES; promise++) {
            Check.isTrue("promise " + promise + " is tested", TESTED[promise] > 0);
        }
        System.out.println(Arrays.stream(TESTED).sum() + " sentences tested");
    }
}
