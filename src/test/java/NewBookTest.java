/** Promise 1: no patterns, no exceptions, nothing drafted, LEFT 2 and RIGHT 3. */
public final class NewBookTest {
    public static void main(String[] args) {
        HyphenBook book = new HyphenBook();
        for (int what = 0; what <= 3; what++) {
            Check.due("count(" + what + ") of a new book", book.count(what), 0);
        }
        Check.due("value(1) of a new book", book.value(1), HyphenBook.NONE);
        Check.due("value(0) of a new book", book.value(0), HyphenBook.NONE);
        Check.due("value(-1) of a new book", book.value(-1), HyphenBook.NONE);
        Check.due("pattern() of a new book", Check.patternOfDraft(book), Check.NO_ARGUMENT);
        Check.due("exception() of a new book", Check.exceptionOfDraft(book), Check.NO_ARGUMENT);
        Check.due("word() of a new book", Check.wordOfDraft(book), Check.NO_ARGUMENT);
        Check.due("word() without patterns", Check.word(book, "hyphenation"), 0);
        Check.due("value(1) without patterns", book.value(1), 0);

        Check.pattern(book, "a1");
        Check.due("LEFT 2 and RIGHT 3 at first", Check.word(book, "aaaaaa"), 0b1100);
        Check.due("another book stays empty", new HyphenBook().count(0), 0);
        Check.end();
    }
}
