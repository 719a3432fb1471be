/** The bounds that promise 8 names. */
public final class CountBoundsTest {
    private static final String COUNT = "Promise 8: count";

    public static void main(String[] args) {
        Check.sentence(COUNT, "what 0: patterns", CountBoundsTest::patterns);
        Check.sentence(COUNT, "1: words with exceptions", CountBoundsTest::wordsWithExceptions);
        Check.sentence(COUNT, "2: beginnings", CountBoundsTest::beginnings);
        Check.sentence(COUNT, "3: bytes of the draft", CountBoundsTest::bytesOfTheDraft);
        Check.sentence(COUNT, "NONE for another one", CountBoundsTest::tooSmall);
        Check.sentence(COUNT, "NONE for another one", CountBoundsTest::tooLarge);
        Check.sentence(COUNT, "NONE for another one", CountBoundsTest::anotherOneOfANewBook);
        Check.end();
    }

    private static void dueNoneChangingNothing(int what) {
        HyphenBook book = KnownBook.make();
        Check.draft(book, "deef");
        Check.due("count(" + what + ")", book.count(what), HyphenBook.NONE);
        Check.due("count(3) behind count(" + what + ")", book.count(3), 4);
        KnownBook.dueAsMadeButDraft(book, "count(" + what + ")");
        Check.due("word() of deef", Check.wordOfDraft(book), 0b1000);
        KnownBook.dueSameAnswers(book, "count(" + what + ")");
    }

    private static void patterns() {
        HyphenBook book = new HyphenBook();
        Check.due("count(0) of none", book.count(0), 0);
        Check.pattern(book, "klm");
        Check.due("count(0) of one", book.count(0), 1);
        Check.pattern(book, "1klm");
        Check.due("count(0) behind the same signs", book.count(0), 1);
        Check.pattern(book, "11klm");
        Check.due("count(0) behind none", book.count(0), 1);
        Check.exception(book, "k-lm");
        Check.word(book, "klm");
        Check.due("count(0) behind others", book.count(0), 1);
        Check.pattern(book, "kl");
        Check.due("count(0) behind a beginning", book.count(0), 2);
    }

    private static void wordsWithExceptions() {
        HyphenBook book = new HyphenBook();
        Check.due("count(1) of none", book.count(1), 0);
        Check.exception(book, "k-lm");
        Check.due("count(1) of one", book.count(1), 1);
        Check.exception(book, "kl-m");
        Check.due("count(1) behind the same word", book.count(1), 1);
        Check.exception(book, "klm-");
        Check.due("count(1) behind none", book.count(1), 1);
        Check.pattern(book, "lm");
        Check.word(book, "lm");
        Check.due("count(1) behind others", book.count(1), 1);
        Check.exception(book, "kl");
        Check.due("count(1) behind a shorter word", book.count(1), 2);
    }

    private static void beginnings() {
        HyphenBook book = new HyphenBook();
        Check.due("count(2) of none", book.count(2), 0);
        Check.pattern(book, "k");
        Check.due("count(2) of one", book.count(2), 1);
        Check.pattern(book, "k1k2k3k");
        Check.due("count(2) of four", book.count(2), 4);
        Check.pattern(book, "kk");
        Check.due("count(2) behind an old beginning", book.count(2), 4);
        Check.pattern(book, "kk1");
        Check.due("count(2) behind the same signs", book.count(2), 4);
        Check.pattern(book, "xyz-");
        Check.due("count(2) behind none", book.count(2), 4);
        Check.exception(book, "x-yz");
        Check.word(book, "uvw");
        Check.due("count(2) behind others", book.count(2), 4);
    }

    private static void bytesOfTheDraft() {
        HyphenBook book = new HyphenBook();
        Check.due("count(3) of none", book.count(3), 0);
        for (int bytes = 1; bytes <= 200; bytes++) {
            book.put(0, 1);
            Check.due("count(3)", book.count(3), bytes);
        }
        book.put(0, 1);
        Check.due("count(3) behind a refused put()", book.count(3), 200);
        Check.wordOfDraft(book);
        Check.due("count(3) behind word()", book.count(3), 0);
    }

    private static void tooSmall() {
        for (int what : new int[] {-1, -2, -3, -4, -256, Integer.MIN_VALUE + 1, Integer.MIN_VALUE}) {
            dueNoneChangingNothing(what);
        }
    }

    private static void tooLarge() {
        for (int what : new int[] {4, 5, 6, 7, 256, 257, 65536, Integer.MAX_VALUE - 1, Integer.MAX_VALUE}) {
            dueNoneChangingNothing(what);
        }
    }

    private static void anotherOneOfANewBook() {
        Check.due("count(-1)", new HyphenBook().count(-1), HyphenBook.NONE);
        Check.due("count(4)", new HyphenBook().count(4), HyphenBook.NONE);
    }
}
