/**
 * A book whose whole state is known, and what it answers as long as that state stands: for a look at
 * what a refused call leaves behind.
 */
final class KnownBook {
    static final int PATTERNS = 3;
    static final int EXCEPTIONS = 2;
    static final int BEGINNINGS = 8;

    private KnownBook() {
    }

    /** Three patterns, two exceptions, LEFT 2, RIGHT 1, the last word abc, nothing drafted. */
    static HyphenBook make() {
        HyphenBook book = new HyphenBook();
        Check.due("pattern() of q1q", Check.pattern(book, "q1q"), 1);
        Check.due("pattern() of .a2b", Check.pattern(book, ".a2b"), 2);
        Check.due("pattern() of b4c.", Check.pattern(book, "b4c."), PATTERNS);
        Check.due("exception() of ab-c", Check.exception(book, "ab-c"), 1);
        Check.due("exception() of d-ee-f", Check.exception(book, "d-ee-f"), EXCEPTIONS);
        Check.due("least(2, 1)", book.least(2, 1), true);
        Check.due("word() of abc", Check.word(book, "abc"), 0b100);
        return book;
    }

    /** Nothing is drafted, and all else is as make() left it. */
    static void dueUsedUpAndElseAsMade(HyphenBook book, String behind) {
        Check.due("count(3) behind " + behind, book.count(3), 0);
        dueAsMadeButDraft(book, behind);
        dueSameAnswers(book, behind);
    }

    /** What can be asked for without the draft is as make() left it. */
    static void dueAsMadeButDraft(HyphenBook book, String behind) {
        Check.due("count(0) behind " + behind, book.count(0), PATTERNS);
        Check.due("count(1) behind " + behind, book.count(1), EXCEPTIONS);
        Check.due("count(2) behind " + behind, book.count(2), BEGINNINGS);
        Check.due("value(0) behind " + behind, book.value(0), HyphenBook.NONE);
        Check.due("value(1) behind " + behind, book.value(1), 2);
        Check.due("value(2) behind " + behind, book.value(2), 4);
        Check.due("value(3) behind " + behind, book.value(3), HyphenBook.NONE);
    }

    /** Patterns, exceptions, LEFT and RIGHT as make() left them, told by words; nothing may be drafted. */
    static void dueSameAnswers(HyphenBook book, String behind) {
        Check.due("word() of qqqqq behind " + behind, Check.word(book, "qqqqq"), 0b11100);
        Check.dueValues(book, "qqqqq", "1111");
        Check.due("word() of abc behind " + behind, Check.word(book, "abc"), 0b100);
        Check.dueValues(book, "abc", "24");
        Check.due("word() of deef behind " + behind, Check.word(book, "deef"), 0b1000);
        Check.dueValues(book, "deef", "000");
        Check.due("count(3) behind these words", book.count(3), 0);
    }
}
