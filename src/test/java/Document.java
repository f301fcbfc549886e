import java.io.IOException;
import java.nio.file.Files;
import java.nio.file.Path;
import java.util.LinkedHashMap;
import java.util.Map;

/**
 * The document, which the tests quote sentence by sentence: a quotation has to stand in it, and at the
 * end no word of a section may be left that no test has quoted.
 */
final class Document {
    /** The sections and, in capitals, the parts of the terms; a new one needs tests of its own. */
    private static final String KNOWN = "RangeGraves, What it is, The public face, Terms, WRITES, CLEANING, TEXT, "
            + "ACTIONS AND UNDO, EXCEPTIONS, 29 promises, Not promised";

    private final Map<String, String> sections = new LinkedHashMap<>();
    private final Map<String, boolean[]> quoted = new LinkedHashMap<>();

    private Document() {
    }

    /** Reads the document; the path is the second argument of each test. */
    static Document of(String[] arguments) throws IOException {
        Document read = new Document();
        String name = "";
        for (String line : Files.readAllLines(Path.of(arguments[1]))) {
            if (line.startsWith("#") || line.matches("[A-Z][A-Z ]+")) {
                name = line.replaceAll("^#+ |:.*", "");
                read.sections.put(name, "");
            } else {
                read.sections.merge(name, line + " ", String::concat);
            }
        }
        // The name and the exceptions of a method are FaceTest's.
        read.sections.replaceAll((key, text) -> text.replaceAll("\\s+", " ").trim().replaceAll("^`[^`]*`: ", ""));
        read.sections.forEach((key, text) -> read.quoted.put(key, new boolean[text.length()]));
        String names = read.sections.keySet().toString().replaceAll("(Promise \\d+, )+", "29 promises, ");
        Check.sameText("the sections of the document", names, "[" + KNOWN + "]");
        Check.same("the last promise", read.sections.containsKey("Promise 29") ? 1 : 0, 1);
        return read;
    }

    /** Says which sentence of a section the checks behind it hold to. */
    void says(String section, String sentence) {
        Check.hold(section + ": " + sentence);
        String text = sections.getOrDefault(section, "");
        int at = text.indexOf(sentence);
        Check.same("the document says this", at >= 0 ? 1 : 0, 1);
        while (at >= 0) {
            for (int i = at; i < at + sentence.length(); i++) {
                quoted.get(section)[i] = true;
            }
            at = text.indexOf(sentence, at + sentence.length());
        }
    }

    void says(int promise, String sentence) {
        says("Promise " + promise, sentence);
    }

    /** Looks whether all words of a section have been quoted. */
    void allSaid(String section) {
        Check.hold(section);
        String text = sections.getOrDefault(section, "no such section");
        StringBuilder left = new StringBuilder();
        for (int i = 0; i < text.length(); i++) {
            left.append(quoted.containsKey(section) && quoted.get(section)[i] ? ' ' : text.charAt(i));
        }
        Check.sameText("words that no test has quoted", left.toString().trim().replaceAll(" +", " "), "");
    }

    void allSaid(int firstPromise, int lastPromise) {
        for (int promise = firstPromise; promise <= lastPromise; promise++) {
            allSaid("Promise " + promise);
        }
    }
}
