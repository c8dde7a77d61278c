import java.io.IOException;
import java.nio.file.Files;
import java.nio.file.Path;
import java.util.ArrayList;
import java.util.List;

/**
 * The sentences of the document that name a boundary, each with a test of its own: says() begins
 * the test of one, due() looks at an answer for it. A sentence without an answer is a failure.
 */
final class Edges {
    private static final Path DOCUMENT = Path.of("../shared/DOC.md");

    private final List<String> quotes = new ArrayList<>();
    private String sentence = "";
    private int looked = 0, lookedBefore = 0, wrong = 0, sentences = 0;

    /** Begins the test of a sentence, in the words of the document. */
    void says(String words) {
        close();
        sentence = words;
        lookedBefore = looked;
        sentences++;
        quotes.add(words);
    }

    /** Words of the document that name no boundary, or one that another sentence's test has. */
    void plain(String words) {
        quotes.add(words);
    }

    void due(String call, long got, long want) {
        looked++;
        if (got != want) {
            wrong++;
            System.out.println("EdgesTest: \"" + sentence + "\": " + call + " is " + got + ", due is " + want);
        }
    }

    private void close() {
        if (!sentence.isEmpty() && looked == lookedBefore) due("nothing looked at", 0, 1);
    }

    void end() {
        close();
        compareWithDocument();
        System.out.println("EdgesTest: " + sentences + " sentences, " + looked + " looked at, " + wrong + " wrong");
        if (wrong != 0) System.exit(1);
    }

    /**
     * Notes, no failures: a document that has been worded anew is no fault of the program. All of
     * the terms and promises should be quoted, so that a sentence without a test is seen.
     */
    private void compareWithDocument() {
        String text;
        try {
            text = plainText(Files.readString(DOCUMENT));
        } catch (IOException e) {
            System.out.println("EdgesTest: note: no document at " + DOCUMENT);
            return;
        }
        boolean[] quoted = new boolean[text.length()];
        for (String quote : quotes) {
            String words = plainText(quote);
            int at = text.indexOf(words);
            // What stands there more than once (as the names of refusals do) is quoted as often.
            while (at >= 0 && quoted[at] && quoted[at + words.length() - 1]) at = text.indexOf(words, at + 1);
            if (at < 0) System.out.println("EdgesTest: note: the document does not say: " + quote);
            for (int i = 0; at >= 0 && i < words.length(); i++) quoted[at + i] = true;
        }
        StringBuilder left = new StringBuilder();
        for (int i = text.indexOf("## Terms"); i >= 0 && i < text.indexOf("## Not promised"); i++) {
            left.append(quoted[i] ? '|' : text.charAt(i));
        }
        for (String part : left.toString().split("\\|+")) {
            if (part.matches(".*\\w.*")) System.out.println("EdgesTest: note: no test quotes: " + part);
        }
    }

    private static String plainText(String text) {
        return text.replace("```text", " ").replace("```", " ").replaceAll("\\s+", " ");
    }
}
