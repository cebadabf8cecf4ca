import java.io.IOException;
import java.nio.charset.StandardCharsets;
import java.nio.file.Files;
import java.nio.file.Path;
import java.util.ArrayList;
import java.util.List;

/**
 * The document's own sentences, each with the tests that quote it.
 *
 * <p>A test quotes the sentence that it is for, so that a sentence without a test is found, and a test whose sentence
 * has changed.
 */
final class Sentences {
    /** The number under which the terms stand, where a promise's sentences stand under its own. */
    static final int TERMS = 0;
    private static final Path DOCUMENT = Path.of("..", "shared", "DOC.md");
    /** Terms that promise nothing that a call could tell. */
    private static final String[] UNTESTABLE = {
        "A house of strict part-writing", "This class is not thread-safe",
    };
    private final List<List<String>> sections = new ArrayList<>();
    private final List<List<String>> quotes = new ArrayList<>();
    private final List<String> unknown = new ArrayList<>();
    private final List<String> face = new ArrayList<>();

    Sentences() throws IOException {
        String text = Files.readString(DOCUMENT, StandardCharsets.UTF_8).replace("`", "");
        addSection(sentencesOf(bodyOf(text, "## What it is") + "\n\n" + bodyOf(text, "## Terms")));
        addFace(bodyOf(text, "## The public face"));
        for (int promise = 1; text.contains("## Promise " + promise + ":"); promise++) {
            addSection(linesOf(bodyOf(text, "## Promise " + promise + ":")));
        }
    }

    private void addSection(List<String> sentences) {
        sections.add(sentences);
        quotes.add(new ArrayList<>());
    }

    private void addFace(String body) {
        for (String line : body.split("\n")) {
            if (line.strip().startsWith("public ") && line.endsWith(";")) {
                face.add(plain(line.substring(0, line.length() - 1)));
            }
        }
    }

    /** What stands under a headline, up to the next one. */
    private static String bodyOf(String text, String headline) {
        int from = text.indexOf('\n', text.indexOf("\n" + headline) + 1);
        int to = text.indexOf("\n## ", from);
        return to < 0 ? text.substring(from) : text.substring(from, to);
    }

    /** Each sentence of prose. */
    private static List<String> sentencesOf(String prose) {
        List<String> sentences = new ArrayList<>();
        for (String sentence : prose.split("(?<=[.])\\s+")) {
            String plain = plain(sentence);
            // A single word heads what follows: 'Notes.', 'Laws.'
            boolean isTestable = plain.indexOf(' ') >= 0;
            for (String head : UNTESTABLE) {
                isTestable &= !plain.startsWith(head);
            }
            if (isTestable) {
                sentences.add(plain);
            }
        }
        return sentences;
    }

    /** Each line of a promise: what the call does, its arguments, what it returns and throws. */
    private static List<String> linesOf(String body) {
        List<String> lines = new ArrayList<>();
        for (String line : body.split("\n")) {
            if (!line.isBlank()) {
                lines.add(plain(line));
            }
        }
        return lines;
    }

    private static String plain(String text) {
        return text.strip().replaceAll("\\s+", " ");
    }

    /** Runs a test of a sentence, of which some words are quoted. */
    void test(int promise, String words, Checks.Call test) {
        boolean isKnown = false;
        for (String sentence : sections.get(promise)) {
            isKnown |= sentence.contains(words);
        }
        if (!isKnown) {
            unknown.add(promise + ": " + words);
        }
        quotes.get(promise).add(words);
        test.run();
    }

    /** The constructor and the calls of the face, as the document writes them. */
    List<String> face() {
        return face;
    }

    /** The quoted words that the document does not have. */
    List<String> unknown() {
        return unknown;
    }

    /** The sentences that no test quotes. */
    List<String> untested() {
        List<String> untested = new ArrayList<>();
        for (int promise = 0; promise < sections.size(); promise++) {
            for (String sentence : sections.get(promise)) {
                if (quotes.get(promise).stream().noneMatch(sentence::contains)) {
                    untested.add(promise + ": " + sentence);
                }
            }
        }
        return untested;
    }
}
