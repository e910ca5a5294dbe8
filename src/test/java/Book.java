import java.util.ArrayList;
import java.util.List;

/**
 * The document's sentences that name a boundary, each with the calls that hold it and with copies of the class
 * that break it. BoundaryTest runs the calls on the class, BrokenTest on the copies.
 */
final class Book {
    /** What a sentence asks, as calls on a new object. */
    interface Calls {
        void on(Run r);
    }

    /** A copy of the class: behind some words of it the first "old" ones are others now. */
    record Copy(String behind, String old, String now) {
    }

    /** The sentence, or the part of it that names one boundary, in the document's own words. */
    static final class Sentence {
        final String words;
        final Calls calls;
        final List<Copy> copies = new ArrayList<>();

        private Sentence(String words, Calls calls) {
            this.words = words;
            this.calls = calls;
        }

        /** The calls must see that this copy of the class does not hold the sentence. */
        Sentence sees(String behind, String old, String now) {
            copies.add(new Copy(behind, old, now));
            return this;
        }

        /** How many answers are not as due; what the class throws is no answer that is due. */
        int wrongAnswers() {
            int before = Run.wrongAnswers();
            Run r = new Run("\"" + words + "\"");
            try {
                calls.on(r);
            } catch (RuntimeException thrown) {
                r.due("a call that threw " + thrown, 1, 0);
            }
            return Run.wrongAnswers() - before;
        }
    }

    final List<Sentence> sentences = new ArrayList<>();
    /** Words of the document that name no boundary. */
    final List<String> others = new ArrayList<>();

    static Book whole() {
        Book book = new Book();
        TrayWords.tell(book);
        LandWords.tell(book);
        FaultWords.tell(book);
        RowWords.tell(book);
        LineWords.tell(book);
        SlipWords.tell(book);
        QuarrelWords.tell(book);
        SavedWords.tell(book);
        NetAndFewWords.tell(book);
        StatusWords.tell(book);
        return book;
    }

    Sentence says(String words, Calls calls) {
        Sentence sentence = new Sentence(words, calls);
        sentences.add(sentence);
        return sentence;
    }

    void namesNoBoundary(String words) {
        others.add(words);
    }

    /** For BrokenTest, which meets this class as one of another loader. */
    static int wrongAnswersTo(int sentence) {
        Run.hush();
        return whole().sentences.get(sentence).wrongAnswers();
    }
}
