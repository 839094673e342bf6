import java.io.IOException;
import java.nio.charset.StandardCharsets;
import java.nio.file.Files;
import java.nio.file.Path;
import java.util.LinkedHashMap;
import java.util.Map;

/** The document sentence by sentence; and whether each of its words stands in a sentence that is tested. */
public final class SentenceTest {
    private static final Path DOCUMENT = Path.of("../shared/DOC.md");

    public static void main(String[] args) throws IOException {
        TextSentences.all();
        ListSentences.all();
        OddsSentences.all();
        WritingSentences.all();
        AloneSentences.all();
        RowSentences.all();
        Bench.section("DOC.md");
        Map<String, String> sections = sections(Files.readString(DOCUMENT, StandardCharsets.UTF_8));
        for (Map.Entry<String, String> one : sections.entrySet()) {
            quoted(one.getKey(), one.getValue());
        }
        for (String[] quote : Bench.QUOTES) {
            if (!sections.getOrDefault(quote[0], "").contains(quote[1])) {
                Bench.fail("under " + quote[0] + " it doesn't say " + quote[1]);
            }
        }
        System.out.println(Bench.QUOTES.size() + " sentences, " + Bench.answers + " answers: "
                + (Bench.wrong == 0 ? "all as due" : Bench.wrong + " are not as due"));
        if (Bench.wrong != 0) {
            System.exit(1);
        }
    }

    /** What the document says under each head that promises something, in one line each. */
    private static Map<String, String> sections(String document) {
        Map<String, String> sections = new LinkedHashMap<>();
        for (String part : document.split("(?m)^## ")) {
            String head = part.replaceFirst("(?s)\n.*", "").trim();
            String body = part.replaceFirst("[^\n]*\n?", "");
            if (head.startsWith("Promise ")) {
                sections.put(head.replaceFirst(":.*", ""), folded(body.replaceFirst("(?s)^\\s*`[^`]*`:", "")));
            } else if (head.equals("Terms")) {
                sections.put(head, folded(body.replaceAll("(?m)^```.*$|^Ahead of the calls.*$|^==== \\d\\.", "")));
            } else if (head.equals("What it is")) {
                sections.put(head, folded(body.replaceFirst("(?s)^.*====[^\n]*\n", "")));
            }
        }
        return sections;
    }

    private static String folded(String text) {
        return text.replaceAll("\\s+", " ").trim();
    }

    private static void quoted(String section, String text) {
        boolean[] covered = new boolean[text.length()];
        for (String[] quote : Bench.QUOTES) {
            for (int at = text.indexOf(quote[1]); quote[0].equals(section) && at >= 0; at = text.indexOf(quote[1], at + 1)) {
                for (int i = at; i < at + quote[1].length(); i++) {
                    covered[i] = true;
                }
            }
        }
        StringBuilder rest = new StringBuilder();
        for (int i = 0; i < text.length(); i++) {
            rest.append(covered[i] ? '\n' : text.charAt(i));
        }
        for (String piece : rest.toString().split("\n+")) {
            if (piece.matches(".*\\w.*")) {
                Bench.fail("no test stands for '" + piece.trim() + "' under " + section);
            }
        }
    }
}
