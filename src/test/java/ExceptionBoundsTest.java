/** The bounds of exceptions, which the terms and promise 4 name, without those of a full book (FullBookTest). */
public final class ExceptionBoundsTest {
    private static final String TERMS = "Terms of promise 4";
    private static final String EXCEPTION = "Promise 4: exception";

    public static void main(String[] args) {
        String letters = "An EXCEPTION is 1 to 63 letters";
        Check.sentence(TERMS, letters, ExceptionBoundsTest::noLetter);
        Check.sentence(TERMS, letters, ExceptionBoundsTest::oneLetter);
        Check.sentence(TERMS, letters, ExceptionBoundsTest::mostLetters);
        Check.sentence(TERMS, letters, ExceptionBoundsTest::tooManyLetters);
        Check.sentence(TERMS, letters, ExceptionBoundsTest::otherBytes);
        Check.sentence(TERMS, "with hyphens between them", ExceptionBoundsTest::everyPlace);
        Check.sentence(TERMS, "none at an end", ExceptionBoundsTest::hyphenAtAnEnd);
        Check.sentence(TERMS, "no two together", ExceptionBoundsTest::twoTogether);
        String instead = "a word that has one gets the places of the new one instead";
        Check.sentence(TERMS, instead, ExceptionBoundsTest::newPlaces);
        Check.sentence(TERMS, instead, ExceptionBoundsTest::newPlacesOfTheLongestWord);
        Check.sentence(EXCEPTION, "how many words have one then", ExceptionBoundsTest::howMany);
        Check.sentence(EXCEPTION, "IllegalArgumentException if it is none", ExceptionBoundsTest::emptyDraft);
        Check.sentence(EXCEPTION, "IllegalArgumentException if it is none", ExceptionBoundsTest::refusedAndThenTaken);
        Check.end();
    }

    private static void dueRefused(String... texts) {
        for (String text : texts) {
            HyphenBook book = KnownBook.make();
            Check.due("exception() of '" + text + "'", Check.exception(book, text), Check.NO_ARGUMENT);
            KnownBook.dueUsedUpAndElseAsMade(book, "exception() of '" + text + "'");
        }
    }

    private static void dueTaken(String text, long cuts) {
        HyphenBook book = KnownBook.make();
        Check.due("exception() of '" + text + "'", Check.exception(book, text), KnownBook.EXCEPTIONS + 1);
        Check.due("count(1)", book.count(1), KnownBook.EXCEPTIONS + 1);
        Check.due("count(3)", book.count(3), 0);
        book.least(1, 1);
        Check.due("word() with '" + text + "'", Check.word(book, text.replace("-", "")), cuts);
    }

    private static void noLetter() {
        dueRefused("", "-", "--", "---", "-".repeat(200));
    }

    private static void oneLetter() {
        dueTaken("a", 0);
        dueTaken("z", 0);
        dueTaken("\u0080", 0);
        dueTaken("\u00ff", 0);
    }

    private static void mostLetters() {
        dueTaken("z".repeat(62), 0);
        dueTaken("z".repeat(63), 0);
        dueTaken("z" + "-z".repeat(62), Long.MAX_VALUE - 1);
        dueTaken("z-" + "z".repeat(62), 1L << 1);
        dueTaken("z".repeat(62) + "-z", 1L << 62);
    }

    private static void tooManyLetters() {
        dueRefused("z".repeat(64), "z" + "-z".repeat(63), "z-" + "z".repeat(63), "z".repeat(63) + "-z");
        dueRefused("z".repeat(65), "z".repeat(66), "z".repeat(67), "z".repeat(127), "z".repeat(200));
    }

    private static void otherBytes() {
        dueRefused("z1z", "1z", "z1", ".z", "z.", "z.z", "zZ", "z z", "z-.z", "z-1-z", "z\u0000", "z\u007f-z");
    }

    private static void everyPlace() {
        dueTaken("k-l", 0b10);
        for (int place = 1; place <= 62; place++) {
            dueTaken("z".repeat(place) + "-" + "z".repeat(63 - place), 1L << place);
        }
    }

    private static void hyphenAtAnEnd() {
        dueRefused("-k", "k-", "-k-", "-k-l", "k-l-", "-k-l-", "-" + "z".repeat(63), "z".repeat(63) + "-");
    }

    private static void twoTogether() {
        dueRefused("k--l", "k---l", "k-l--m", "k--l-m", "--k", "k--", "z--" + "z".repeat(62), "z".repeat(62) + "--z");
    }

    private static void newPlaces() {
        HyphenBook book = KnownBook.make();
        dueNewPlaces(book, "d-e-e-f", 0b1100);
        dueNewPlaces(book, "dee-f", 0b1000);
        dueNewPlaces(book, "de-ef", 0b100);
        dueNewPlaces(book, "deef", 0);
        dueNewPlaces(book, "deef", 0);
        dueNewPlaces(book, "d-ee-f", 0b1000);
        KnownBook.dueSameAnswers(book, "these exceptions");
    }

    private static void dueNewPlaces(HyphenBook book, String text, long cuts) {
        Check.due("exception() of " + text, Check.exception(book, text), KnownBook.EXCEPTIONS);
        Check.due("count(1)", book.count(1), KnownBook.EXCEPTIONS);
        Check.due("count(3)", book.count(3), 0);
        Check.due("word() of deef with " + text, Check.word(book, "deef"), cuts);
    }

    private static void newPlacesOfTheLongestWord() {
        HyphenBook book = Check.openBook("z1");
        String word = "z".repeat(63);
        Check.due("exception()", Check.exception(book, "z" + "-z".repeat(62)), 1);
        Check.due("word()", Check.word(book, word), Long.MAX_VALUE - 1);
        Check.due("exception()", Check.exception(book, word), 1);
        Check.due("word()", Check.word(book, word), 0);
        Check.due("exception()", Check.exception(book, "z".repeat(62) + "-z"), 1);
        Check.due("word()", Check.word(book, word), 1L << 62);
        Check.due("word() of 62 letters, which has none", Check.word(book, "z".repeat(62)), Long.MAX_VALUE / 2 - 1);
    }

    private static void howMany() {
        HyphenBook book = new HyphenBook();
        Check.due("the first", Check.exception(book, "k"), 1);
        Check.due("none", Check.exception(book, "k-"), Check.NO_ARGUMENT);
        Check.due("the second", Check.exception(book, "k-l"), 2);
        Check.due("the second again", Check.exception(book, "kl"), 2);
        Check.pattern(book, "k");
        Check.due("the third", Check.exception(book, "kl-m"), 3);
        Check.due("a word with which another begins", Check.exception(book, "l"), 4);
        Check.due("count(1)", book.count(1), 4);
    }

    private static void emptyDraft() {
        HyphenBook book = KnownBook.make();
        Check.due("exception() of nothing", Check.exceptionOfDraft(book), Check.NO_ARGUMENT);
        KnownBook.dueUsedUpAndElseAsMade(book, "exception() of nothing");
    }

    /** What a refused draft had ahead of its fault is not kept anywhere, nor the places of a word changed. */
    private static void refusedAndThenTaken() {
        HyphenBook book = Check.openBook();
        for (String none : new String[] {"k-l-", "k-l-m--", "k-l-m.", "k-l-m-" + "k".repeat(61)}) {
            Check.due("exception() of " + none, Check.exception(book, none), Check.NO_ARGUMENT);
            Check.due("count(1)", book.count(1), 0);
        }
        Check.due("word() of klm", Check.word(book, "klm"), 0);
        Check.due("exception() of kl-m", Check.exception(book, "kl-m"), 1);
        Check.due("exception() of k-lm-", Check.exception(book, "k-lm-"), Check.NO_ARGUMENT);
        Check.due("word() of klm", Check.word(book, "klm"), 0b100);
    }
}
