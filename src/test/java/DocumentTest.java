import java.io.IOException;
import java.lang.reflect.Method;
import java.nio.file.Files;
import java.nio.file.Path;
import java.util.ArrayList;
import java.util.Arrays;
import java.util.List;

/**
 * Every word of the document's terms and promises stands in a sentence that has a test of its own
 * among the boundary tests, or in PLAIN, the parts that name no boundary case (PromisesTest and
 * ModelTest ask for these). And what a boundary test says it stands for stands in the document.
 */
public final class DocumentTest {
    private static final Check CHECK = new Check();
    private static final Path DOCUMENT = Path.of("../shared/DOC.md");
    private static final int PROMISES = 31;
    private static final List<Class<? extends Boundary>> TESTS = List.of(BoundaryTermsTest.class, BoundaryPageTest.class,
        BoundaryTextTest.class, BoundaryDayTest.class, BoundaryBestTest.class, BoundaryRowTest.class, BoundarySheetTest.class);

    private static final String[] PLAIN = {
        "Answers:",
        ", where nothing else is told.",
        "THE PAGE:",
        "THE BUYER sells what was TAKEN next door that day:",
        "WORTH: that GAIN.",
        "What is owed otherwise:"
    };

    public static void main(String[] args) throws IOException {
        if (!Files.exists(DOCUMENT)) {
            System.out.println("the document is not here: its words are not looked at");
            return;
        }
        String[] sections = sections(Files.readString(DOCUMENT));
        boolean[][] covered = new boolean[sections.length][];
        for (int i = 0; i < sections.length; i++) {
            covered[i] = new boolean[sections[i].length()];
        }
        for (Class<? extends Boundary> tests : TESTS) {
            for (Method m : tests.getDeclaredMethods()) {
                Sentence s = m.getAnnotation(Sentence.class);
                if (s != null) {
                    CHECK.at(tests.getName() + "." + m.getName());
                    CHECK.holds("'" + s.words() + "' is in section " + s.promise(),
                        cover(sections[s.promise()], s.words(), covered[s.promise()]));
                }
            }
        }
        CHECK.at("PLAIN");
        for (String plain : PLAIN) {
            boolean found = false;
            for (int i = 0; i < sections.length; i++) {
                found |= cover(sections[i], plain, covered[i]);
            }
            CHECK.holds("'" + plain + "' is in the document", found);
        }
        for (int i = 0; i < sections.length; i++) {
            CHECK.at(i == 0 ? "terms" : "promise " + i);
            for (String left : leftOver(sections[i], covered[i])) {
                CHECK.holds("'" + left + "' has a test of its own", false);
            }
        }
        CHECK.finish();
    }

    /** The terms (how long an object is used with them), then each promise; without headings, faces and line ends. */
    private static String[] sections(String document) {
        String[] found = new String[PROMISES + 1];
        int terms = document.indexOf("## Terms");
        String use = document.substring(document.indexOf("An object is used"), document.indexOf("## The public face"));
        int last = document.indexOf("## Not promised");
        String[] parts = document.substring(terms, last).split("(?m)^## ");
        CHECK.due("sections", parts.length - 1, found.length);
        for (int i = 0; i < found.length; i++) {
            String text = parts[i + 1].substring(parts[i + 1].indexOf('\n'));
            text = text.replaceAll("(?m)^Ahead of the calls.*$", "").replace("```text", "").replace("```", "");
            text = text.replaceAll("`[^`]*`:", "").replaceAll("={8} [0-9]", "");
            found[i] = (i == 0 ? use + text : text).replaceAll("\\s+", " ").trim();
        }
        return found;
    }

    private static boolean cover(String section, String words, boolean[] covered) {
        int at = section.indexOf(words);
        for (int from = at; from >= 0; from = section.indexOf(words, from + 1)) {
            Arrays.fill(covered, from, from + words.length(), true);
        }
        return at >= 0;
    }

    /** What no words cover, in pieces; signs and blanks alone are no piece. */
    private static List<String> leftOver(String section, boolean[] covered) {
        List<String> pieces = new ArrayList<>();
        StringBuilder piece = new StringBuilder();
        for (int i = 0; i <= section.length(); i++) {
            if (i < section.length() && !covered[i]) {
                piece.append(section.charAt(i));
            } else {
                if (piece.toString().matches(".*[A-Za-z0-9].*")) {
                    pieces.add(piece.toString().trim());
                }
                piece.setLength(0);
            }
        }
        return pieces;
    }
}
