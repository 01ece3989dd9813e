import java.nio.file.Files;
import java.nio.file.Path;
import java.util.ArrayList;
import java.util.Arrays;
import java.util.List;

/** Each sentence of the document has checks of its own: these quote it, and no word of it is left without a quote. */
public final class SentencesTest {
    public static void main(String[] args) throws Exception {
        TapeSentences.all();
        LampSentences.all();
        PromiseSentences.all();
        everySentenceIsQuoted();
        Check.end("SentencesTest");
    }

    private static void everySentenceIsQuoted() throws Exception {
        List<String> quoted = new ArrayList<>(Check.quoted());
        List<Integer> checks = new ArrayList<>();
        for (int i = 0; i < quoted.size(); i++) {
            checks.add(Check.checksOf(i));
        }
        String root = System.getenv("LANTERN_ROOT");
        Path file = Path.of(root == null ? "." : root, "../shared/DOC.md");
        if (!Files.isReadable(file)) {
            System.out.println("no " + file + ": the quotes are not looked up");
            return;
        }
        Check.sentence("the document itself");
        String text = plain(Files.readString(file));
        boolean[] covered = new boolean[text.length()];
        for (int i = 0; i < quoted.size(); i++) {
            String words = plain(quoted.get(i));
            Check.same("'" + words + "' stands in it", text.contains(words), true);
            Check.same("'" + words + "' has checks", checks.get(i) > 0, true);
            for (int from = text.indexOf(words); from >= 0; from = text.indexOf(words, from + 1)) {
                Arrays.fill(covered, from, from + words.length(), true);
            }
        }
        noneLeft(text, covered, text.indexOf("## Terms") + 8, text.indexOf("## Promise 1:"));
        int promises = 0;
        for (int at = text.indexOf("## Promise "); at >= 0; at = text.indexOf("## Promise ", at + 1)) {
            promises++;
            int next = text.indexOf("## ", at + 3);
            noneLeft(text, covered, text.indexOf("`: ", at) + 3, next);
        }
        Check.same("promises", promises, 45);
    }

    private static String plain(String text) {
        return text.replaceAll("\\s+", " ").trim();
    }

    /** Letters and digits that no quote has, but for the marks between the parts of the Terms. */
    private static void noneLeft(String text, boolean[] covered, int from, int to) {
        StringBuilder left = new StringBuilder();
        for (int i = from; i < to; i++) {
            left.append(covered[i] ? '|' : text.charAt(i));
        }
        String words = left.toString().replaceAll("\\|+", "|").replaceAll("```(text)?|==== [23]\\.", "");
        if (words.matches("(?s).*[a-zA-Z0-9].*")) {
            Check.same("left without a quote", words, "");
        }
    }
}
