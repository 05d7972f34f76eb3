import java.io.IOException;
import java.nio.file.DirectoryStream;
import java.nio.file.Files;
import java.nio.file.Path;
import java.util.BitSet;
import java.util.regex.Matcher;
import java.util.regex.Pattern;

/** Each sentence of the document's terms and promises is quoted by a test that holds the class to it. */
public final class OreBlocksEverySentence {
    private static final Path TESTS = Path.of("src/test/java");
    private static final Pattern QUOTE = Pattern.compile("@Sentence\\((?:promise = (\\d+), value = )?\"([^\"]+)\"\\)");
    /** What is no sentence that could be broken: headings, frames, and how the document is to be read. */
    private static final Pattern FRAME = Pattern.compile(
        "## Terms|======== \\d|```(text)?|Words in capitals are told where they come first\\.|All numbers are whole,|^ [^:]*`:|##|\\band\\b|\\W");

    public static void main(String[] args) throws IOException {
        String[] parts = Sentences.readParts();
        BitSet[] quoted = new BitSet[parts.length];
        for (int part = 0; part < parts.length; part++) quoted[part] = new BitSet();
        // The terms tell again what the opening tells, and OreBlocksFace holds the class to its face.
        quoted[0].set(0, Math.max(0, parts[0].indexOf("## Terms")));
        int quotes = 0;
        try (DirectoryStream<Path> files = Files.newDirectoryStream(TESTS, "*.java")) {
            for (Path file : files) quotes += mark(Files.readString(file), parts, quoted);
        }
        int wrong = quotes > 100 ? 0 : 1;
        // The last part is what is not promised: nothing of it can be broken.
        for (int part = 0; part < parts.length - 1; part++) wrong += tellUnquoted(part, parts[part], quoted[part]);
        System.out.println(quotes + " quotes, " + wrong + " sentences that none quotes");
        if (wrong != 0) System.exit(1);
    }

    private static int mark(String test, String[] parts, BitSet[] quoted) {
        int quotes = 0;
        Matcher quote = QUOTE.matcher(test);
        while (quote.find()) {
            int part = quote.group(1) == null ? 0 : Integer.parseInt(quote.group(1));
            int at = parts[part].indexOf(quote.group(2));
            if (at < 0) continue;
            quoted[part].set(at, at + quote.group(2).length());
            quotes++;
        }
        return quotes;
    }

    private static int tellUnquoted(int part, String text, BitSet quoted) {
        int wrong = 0;
        for (int from = quoted.nextClearBit(0); from < text.length(); ) {
            int end = quoted.nextSetBit(from);
            String left = text.substring(from, end < 0 ? text.length() : end);
            if (!FRAME.matcher(left).replaceAll("").isEmpty()) {
                wrong++;
                System.out.println("promise " + part + ", none quotes: " + left);
            }
            from = end < 0 ? text.length() : quoted.nextClearBit(end);
        }
        return wrong;
    }
}
