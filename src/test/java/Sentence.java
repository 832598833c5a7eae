import java.io.IOException;
import java.nio.file.Files;
import java.nio.file.Path;
import java.util.ArrayList;
import java.util.List;
import java.util.regex.Matcher;
import java.util.regex.Pattern;

/** The document's sentences, to the letter: what is looked at behind one is its test. */
final class Sentence {
    private static final Pattern PROMISE = Pattern.compile("## Promise (\\d+): [^`]*`([^`]*)`");
    private static final int PROMISES = 35;

    private static final List<String> QUOTES = new ArrayList<>();
    private static int lookedAtFirst = 0;

    private Sentence() {
    }

    static void says(String quote) {
        endTheOneBefore();
        QUOTES.add(quote);
        lookedAtFirst = Check.looked();
        Check.about("[" + quote + "] ");
    }

    private static void endTheOneBefore() {
        if (!QUOTES.isEmpty()) {
            Check.due("a test stands behind it", Check.looked() > lookedAtFirst ? 1 : 0, 1);
        }
    }

    /** Each quote stands in the document, and each promise has one that begins with its call. */
    static void lookUp(Path document) throws IOException {
        endTheOneBefore();
        Check.about("");
        String text = Files.readString(document).replaceAll("\\s+", " ");
        for (String quote : QUOTES) {
            Check.due("'" + quote + "' stands in the document", text.contains(quote) ? 1 : 0, 1);
        }
        int promises = 0;
        Matcher m = PROMISE.matcher(text);
        while (m.find()) {
            promises++;
            String call = "`" + m.group(2) + "`";
            Check.due("promise " + m.group(1) + " is quoted", QUOTES.stream().anyMatch(q -> q.startsWith(call)) ? 1 : 0, 1);
        }
        Check.due("promises in the document", promises, PROMISES);
        System.out.println(QUOTES.size() + " sentences quoted");
    }
}
