import java.io.IOException;
import java.nio.file.Files;
import java.nio.file.Path;
import java.util.List;
import java.util.Set;
import java.util.TreeSet;

/**
 * Runs the edge tests, and compares the sentences that they quote with those of the document: each quote
 * stands in it under its heading, and each sentence of 'Description' and of the promises is quoted.
 */
public final class EdgesTest {
    private static final Path DOCUMENT = Path.of("../shared/DOC.md");

    // Sentences that promise nothing by themselves, and those that FaceTest and ExamplesTest hold.
    private static final List<String> NOT_QUOTED = List.of(
            "All numbers are integers.",
            "A component has these properties; the values in parentheses are the range and the first value:",
            "To obtain an instance of a component means:",
            "The constants:",
            "`TYPES = 0,", "`SINGLETON = 0,", "`REQUIRED = 0,", "`NO_CANDIDATE = 1,", "`NONE = -1`",
            "The constructor and the methods follow, a promise each: the signature, then what it does.",
            "Examples: Each of them begins with a new object; the results are given behind the calls.",
            "A prototype injected into a singleton, and events: ",
            "A cycle, and a LATER dependency that avoids it: ",
            "An ambiguous choice, and PRIMARY: ",
            "Scopes: add(1, 2) = 0;");

    public static void main(String[] args) throws IOException {
        ComponentEdges.run();
        ChoiceEdges.run();
        InstanceEdges.run();
        CallEdges.run();
        RecordEdges.run();
        RefusedCallEdges.run();
        Edges.CHECK.noSentence();
        compareWithDocument(Edges.CHECK);
        Edges.CHECK.finish();
    }

    private static void compareWithDocument(Check check) throws IOException {
        if (!Files.isReadable(DOCUMENT)) {
            System.out.println("EdgesTest: " + DOCUMENT + " is not here, the quotes were not compared with it");
            return;
        }
        Set<String> sentences = sentences(Files.readAllLines(DOCUMENT));
        check.same("there are sentences", sentences.size() > 100, true);
        for (String quote : check.answersBySentence().keySet()) {
            check.same("the document says '" + quote + "'", sentences.contains(quote), true);
            check.same("it is held by answers: '" + quote + "'", check.answersBySentence().get(quote) > 0, true);
        }
        for (String sentence : sentences) {
            boolean quoted = check.answersBySentence().containsKey(sentence);
            check.same("a test quotes '" + sentence + "'", quoted || isNotQuoted(sentence), true);
        }
    }

    private static boolean isNotQuoted(String sentence) {
        String words = sentence.substring(sentence.indexOf(": ") + 2);
        for (String beginning : NOT_QUOTED) {
            if (words.startsWith(beginning)) {
                return true;
            }
        }
        return sentence.startsWith("What it is: A dependency injection container: ");
    }

    // Headings of two signs are places; signatures, rules and labels are no sentences.
    private static Set<String> sentences(List<String> lines) {
        Set<String> found = new TreeSet<>();
        String place = "";
        for (String line : lines) {
            if (line.startsWith("## ")) {
                place = line.substring(3).split(":")[0];
            }
            boolean promises = place.startsWith("Promise ") || place.equals("Description") || place.equals("What it is");
            String words = line.strip().replaceFirst("^- ", "");
            boolean isSignature = words.startsWith("`") && words.endsWith("`");
            if (promises && !words.isEmpty() && !words.startsWith("#") && !words.startsWith("---- ") && !isSignature) {
                addSentences(place, words, found);
            }
        }
        return found;
    }

    private static void addSentences(String place, String words, Set<String> found) {
        for (String sentence : words.split("(?<=[.])\\s+(?=[A-Z0-9])")) {
            if (!sentence.matches("[A-Z]+\\.|[0-9]\\.")) {
                found.add(place + ": " + sentence);
            }
        }
    }
}
