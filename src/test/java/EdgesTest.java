import java.io.IOException;
import java.nio.file.Files;
import java.nio.file.Path;
import java.util.List;

/**
 * The document sentence by sentence, each with a test of its own; and that the tests leave none of its words out: their
 * sentences, in the order of the tests, are the whole text from the terms to the last promise.
 */
public final class EdgesTest {
    public static void main(String[] args) throws IOException {
        EdgesOfChairs.all();
        EdgesOfTheLaw.all();
        EdgesOfSignals.all();
        EdgesOfWhatComes.all();
        EdgesOfGames.all();
        EdgesOfPromises.all();
        EdgesOfLaterPromises.all();
        List<String> sentences = Due.sentences();
        System.out.println(sentences.size() + " sentences");
        Path path = Path.of(args.length > 0 ? args[0] : ".").resolve("../shared/DOC.md");
        if (Files.exists(path)) {
            compare(document(Files.readString(path)), sentences);
        } else {
            System.out.println("there is no document to compare them with");
        }
        Due.end();
    }

    /** What the document says from its terms to its last promise, without headings, faces of methods and fences. */
    private static String document(String all) {
        int from = all.indexOf("## Terms");
        int to = all.indexOf("## Not promised");
        return all.substring(from, to)
            .replaceAll("(?m)^#.*$", "")
            .replaceAll("(?m)^```.*$", "")
            .replaceAll("(?m)^`[^`]*`: ", "")
            .replaceAll("==== \\d\\.", "")
            .replaceAll("\\s+", " ").trim();
    }

    private static void compare(String document, List<String> sentences) {
        String rest = document;
        for (String sentence : sentences) {
            if (!rest.startsWith(sentence)) {
                System.out.println("the test has:         " + sentence);
                System.out.println("the document goes on: " + rest.substring(0, Math.min(rest.length(), 200)));
                Due.is("the document says it here", false, true);
                return;
            }
            rest = rest.substring(sentence.length()).trim();
        }
        Due.is("words of the document that no test has: " + rest, rest.length(), 0);
    }
}
