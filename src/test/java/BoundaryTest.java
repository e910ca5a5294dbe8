import java.io.IOException;
import java.nio.charset.StandardCharsets;
import java.nio.file.Files;
import java.nio.file.Path;
import java.util.Arrays;

/** Each sentence of the document that names a boundary holds, and no sentence of it is left without a test. */
public final class BoundaryTest {
    private static final Path DOCUMENT = Path.of("../shared/DOC.md");
    private static int wrong = 0;

    public static void main(String[] args) throws IOException {
        Book book = Book.whole();
        for (Book.Sentence sentence : book.sentences) {
            wrong += sentence.wrongAnswers() > 0 ? 1 : 0;
            must(!sentence.copies.isEmpty(), "no copy breaks \"" + sentence.words + "\"");
        }
        if (Files.exists(DOCUMENT)) {
            compare(book, Files.readString(DOCUMENT, StandardCharsets.UTF_8));
        } else {
            System.out.println("BoundaryTest: no " + DOCUMENT + " to compare the sentences with");
        }
        System.out.println("BoundaryTest: " + book.sentences.size() + " sentences, " + (wrong == 0 ? "all hold" : wrong + " things are wrong"));
        if (wrong != 0) {
            System.exit(1);
        }
    }

    private static void must(boolean holds, String what) {
        if (!holds) {
            wrong++;
            System.out.println("not so: " + what);
        }
    }

    /** Each sentence stands in the document in these words; what stands in none of them is told. */
    private static void compare(Book book, String document) {
        String text = promises(document);
        boolean[] named = new boolean[text.length()];
        for (Book.Sentence sentence : book.sentences) {
            cover(text, named, sentence.words);
        }
        for (String words : book.others) {
            cover(text, named, words);
        }
        StringBuilder left = new StringBuilder();
        for (int i = 0; i <= text.length(); i++) {
            if (i < text.length() && !named[i]) {
                left.append(text.charAt(i));
            } else if (left.length() > 0) {
                must(left.toString().matches("[ .;:,()=]*((and|or) )?[ ]*"), "no test names \"" + left + "\"");
                left.setLength(0);
            }
        }
    }

    /** The terms and the promises, without headings, the face and the lines that only order the calls; blanks are single. */
    private static String promises(String document) {
        StringBuilder kept = new StringBuilder();
        boolean isFace = false;
        for (String line : document.split("\n")) {
            isFace = line.startsWith("```java") || (isFace && !line.startsWith("```"));
            boolean isOther = line.startsWith("#") || line.startsWith("```") || line.startsWith("Ahead of the calls") || isFace;
            kept.append(isOther ? "" : line + " ");
        }
        return kept.toString().replaceAll("\\s+", " ");
    }

    private static void cover(String text, boolean[] named, String words) {
        int at = text.indexOf(words);
        must(at >= 0, "the document does not say \"" + words + "\"");
        if (at >= 0) {
            Arrays.fill(named, at, at + words.length(), true);
        }
    }
}
