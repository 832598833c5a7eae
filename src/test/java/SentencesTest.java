import java.nio.file.Path;

/**
 * Promises 1 to 35: a test for each sentence of the document that names a boundary.
 * Takes the paths of the class's source and of the document; the sentences are looked up in the latter.
 */
public final class SentencesTest {
    public static void main(String[] args) throws Exception {
        TermsSentences.all();
        RefusalSentences.all();
        TextSentences.all();
        RuleSentences.all();
        DeedSentences.all();
        TriedSentences.all();
        HeardSentences.all();
        if (args.length > 1) {
            Sentence.lookUp(Path.of(args[1]));
        }
        Check.finish();
    }
}
