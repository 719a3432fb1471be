/** The bounds that promise 6 names. */
public final class LeastBoundsTest {
    private static final String LEAST = "Promise 6: least";
    private static final int[] TOO_SMALL = {0, -1, -63, -64, Integer.MIN_VALUE + 1, Integer.MIN_VALUE};
    private static final int[] TOO_LARGE = {64, 65, 127, 257, 65537, Integer.MAX_VALUE - 1, Integer.MAX_VALUE};

    public static void main(String[] args) {
        Check.sentence(LEAST, "LEFT and RIGHT: true", LeastBoundsTest::leastOfAll);
        Check.sentence(LEAST, "LEFT and RIGHT: true", LeastBoundsTest::greatestOfAll);
        Check.sentence(LEAST, "LEFT and RIGHT: true", LeastBoundsTest::eachOfItsOwn);
        Check.sentence(LEAST, "LEFT and RIGHT: true", LeastBoundsTest::nothingElse);
        String refused = "false if one of them is not 1 .. 63";
        Check.sentence(LEAST, refused, LeastBoundsTest::leftTooSmall);
        Check.sentence(LEAST, refused, LeastBoundsTest::leftTooLarge);
        Check.sentence(LEAST, refused, LeastBoundsTest::rightTooSmall);
        Check.sentence(LEAST, refused, LeastBoundsTest::rightTooLarge);
        Check.sentence(LEAST, refused, LeastBoundsTest::bothWrong);
        Check.sentence(LEAST, refused, LeastBoundsTest::refusedByANewBook);
        Check.end();
    }

    private static void dueRefused(int left, int right) {
        String call = "least(" + left + ", " + right + ")";
        HyphenBook book = KnownBook.make();
        Check.draft(book, "deef");
        Check.due(call, book.least(left, right), false);
        Check.due("count(3) behind " + call, book.count(3), 4);
        KnownBook.dueAsMadeButDraft(book, call);
        Check.due("word() of deef behind " + call, Check.wordOfDraft(book), 0b1000);
        KnownBook.dueSameAnswers(book, call);
    }

    private static void dueCuts(int left, int right, int letters, long want) {
        HyphenBook book = Check.openBook("a1");
        Check.due("least(" + left + ", " + right + ")", book.least(left, right), true);
        Check.due("word() of " + letters + " letters with " + left + " and " + right,
            Check.word(book, "a".repeat(letters)), want);
    }

    private static void leastOfAll() {
        dueCuts(1, 1, 1, 0);
        dueCuts(1, 1, 2, 0b10);
        dueCuts(1, 1, 63, Long.MAX_VALUE - 1);
    }

    private static void greatestOfAll() {
        dueCuts(63, 63, 63, 0);
        dueCuts(63, 1, 63, 0);
        dueCuts(1, 63, 63, 0);
        dueCuts(62, 1, 63, 1L << 62);
        dueCuts(1, 62, 63, 1L << 1);
        dueCuts(62, 2, 63, 0);
        dueCuts(2, 62, 63, 0);
    }

    private static void eachOfItsOwn() {
        dueCuts(1, 5, 6, 0b10);
        dueCuts(5, 1, 6, 0b100000);
        dueCuts(3, 3, 6, 0b1000);
        dueCuts(3, 4, 6, 0);
        dueCuts(4, 3, 6, 0);
    }

    private static void nothingElse() {
        HyphenBook book = KnownBook.make();
        Check.draft(book, "dee");
        Check.due("least(63, 63)", book.least(63, 63), true);
        Check.due("count(3)", book.count(3), 3);
        KnownBook.dueAsMadeButDraft(book, "least(63, 63)");
        Check.draft(book, "f");
        Check.due("word() of deef", Check.wordOfDraft(book), 0);
        Check.due("least(2, 1)", book.least(2, 1), true);
        KnownBook.dueSameAnswers(book, "least(2, 1)");
    }

    private static void leftTooSmall() {
        for (int left : TOO_SMALL) {
            dueRefused(left, 1);
            dueRefused(left, 63);
        }
    }

    private static void leftTooLarge() {
        for (int left : TOO_LARGE) {
            dueRefused(left, 1);
            dueRefused(left, 63);
        }
    }

    /** Behind a LEFT that would be right, and does not count either. */
    private static void rightTooSmall() {
        for (int right : TOO_SMALL) {
            dueRefused(1, right);
            dueRefused(63, right);
        }
    }

    private static void rightTooLarge() {
        for (int right : TOO_LARGE) {
            dueRefused(1, right);
            dueRefused(63, right);
        }
    }

    private static void bothWrong() {
        dueRefused(0, 0);
        dueRefused(64, 64);
        dueRefused(0, 64);
        dueRefused(64, 0);
        dueRefused(Integer.MIN_VALUE, Integer.MIN_VALUE);
        dueRefused(Integer.MAX_VALUE, Integer.MAX_VALUE);
    }

    private static void refusedByANewBook() {
        HyphenBook book = new HyphenBook();
        Check.pattern(book, "a1");
        Check.due("least(0, 1)", book.least(0, 1), false);
        Check.due("least(1, 0)", book.least(1, 0), false);
        Check.due("least(64, 1)", book.least(64, 1), false);
        Check.due("least(1, 64)", book.least(1, 64), false);
        Check.due("word() with 2 and 3", Check.word(book, "aaaaaa"), 0b1100);
    }
}
