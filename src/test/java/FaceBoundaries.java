import java.io.IOException;
import java.nio.charset.StandardCharsets;
import java.nio.file.Files;
import java.nio.file.Path;
import java.util.regex.Matcher;
import java.util.regex.Pattern;

/** The text of the face: its calls in the document's order and words, under the heads that the document tells. */
final class FaceBoundaries extends Checks {
    private static final Path SOURCE = Path.of("src", "main", "java", "Counterpointery.java");
    private static final Pattern CALL = Pattern.compile("(?m)^    public \\w+ (\\w+)\\(");
    private static final String AHEAD = "Ahead of the calls ";
    private static final String SAYS = " the interface says: ";
    private static final String[] HEADS = {
        "Ahead of the calls given, other, change, clear, ratio, lower, feign, notes, noteAt, pitch, interval "
            + "the interface says: ---- lines",
        "Ahead of the calls setLaw, weight, style, faults, faultAt, faultOf, cost, isGood, mend "
            + "the interface says: ---- laws and faults",
        "Ahead of the calls range, find, goodLines, bars, barAt the interface says: ---- search",
        "Ahead of the calls exchanged, canon, canons, canonAt the interface says: ---- exchange and canons",
        "Ahead of the calls stepShare, meanPitch, isConsistent the interface says: ---- figures",
    };

    private FaceBoundaries() {
    }

    static void tell(Sentences document) throws IOException {
        String source = Files.readString(SOURCE, StandardCharsets.US_ASCII);
        calls(document, source.replaceAll("\\s+", " "));
        for (String words : HEADS) {
            document.test(Sentences.TERMS, words, () -> head(words, source));
        }
    }

    private static void calls(Sentences document, String source) {
        int from = 0;
        for (String call : document.face()) {
            int at = source.indexOf(call + " {", from);
            due("the face's '" + call + "' in its place", at >= 0, true);
            from = Math.max(from, at);
        }
        due("the calls of the face", document.face().size(), 33);
    }

    private static void head(String words, String source) {
        int says = words.indexOf(SAYS);
        String head = "    // " + words.substring(says + SAYS.length()) + "\n";
        int at = source.indexOf(head);
        due("the head '" + head.strip() + "'", at >= 0, true);
        int from = Math.max(0, at) + head.length();
        int to = source.indexOf("// ----", from);
        StringBuilder names = new StringBuilder();
        Matcher call = CALL.matcher(source.substring(from, to < 0 ? source.length() : to));
        while (call.find()) {
            names.append(names.length() == 0 ? "" : ", ").append(call.group(1));
        }
        due("the calls under '" + head.strip() + "'", names.toString(), words.substring(AHEAD.length(), says));
    }
}
