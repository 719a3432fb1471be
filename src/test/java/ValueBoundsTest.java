/** The bounds that promise 7 names. */
public final class ValueBoundsTest {
    private static final String VALUE = "Promise 7: value";

    public static void main(String[] args) {
        String last = "The value behind letter k of the word that word() was asked for last";
        Check.sentence(VALUE, last, ValueBoundsTest::theLastWord);
        Check.sentence(VALUE, last, ValueBoundsTest::aShorterWordBehindALonger);
        Check.sentence(VALUE, "with the patterns there were then", ValueBoundsTest::patternsOfThen);
        Check.sentence(VALUE, "also if it has an exception", ValueBoundsTest::withAnException);
        Check.sentence(VALUE, "NONE if there was none yet", ValueBoundsTest::noWordYet);
        Check.sentence(VALUE, "(one that threw is none)", ValueBoundsTest::theFirstThrew);
        Check.sentence(VALUE, "(one that threw is none)", ValueBoundsTest::aLaterOneThrew);
        Check.sentence(VALUE, "or k is not 1 .. n - 1", ValueBoundsTest::tooSmall);
        Check.sentence(VALUE, "or k is not 1 .. n - 1", ValueBoundsTest::tooLarge);
        Check.sentence(VALUE, "or k is not 1 .. n - 1", ValueBoundsTest::noPlaceInOneLetter);
        Check.end();
    }

    private static void dueNoneAnywhere(HyphenBook book, String behind) {
        for (int k = -2; k <= 66; k++) {
            Check.due("value(" + k + ") behind " + behind, book.value(k), HyphenBook.NONE);
        }
        Check.due("value of the least k", book.value(Integer.MIN_VALUE), HyphenBook.NONE);
        Check.due("value of the greatest k", book.value(Integer.MAX_VALUE), HyphenBook.NONE);
    }

    private static void dueNoneChangingNothing(int k) {
        HyphenBook book = KnownBook.make();
        Check.draft(book, "deef");
        Check.due("value(" + k + ")", book.value(k), HyphenBook.NONE);
        Check.due("count(3) behind value(" + k + ")", book.count(3), 4);
        KnownBook.dueAsMadeButDraft(book, "value(" + k + ")");
        Check.due("word() of deef", Check.wordOfDraft(book), 0b1000);
        KnownBook.dueSameAnswers(book, "value(" + k + ")");
    }

    private static void theLastWord() {
        HyphenBook book = Check.openBook("a1b", "c4d");
        Check.word(book, "abab");
        Check.due("value(1) of abab", book.value(1), 1);
        Check.word(book, "cdcd");
        Check.due("value(1) of cdcd", book.value(1), 4);
        Check.due("value(1) asked for again", book.value(1), 4);
        Check.draft(book, "abab");
        Check.due("value(1) while another is drafted", book.value(1), 4);
        Check.due("exception()", Check.exceptionOfDraft(book), 1);
        Check.due("value(1) behind exception()", book.value(1), 4);
        Check.due("pattern()", Check.pattern(book, "ab9ab"), 3);
        Check.due("value(2) behind pattern()", book.value(2), 0);
        Check.word(book, "abab");
        Check.due("value(2) of abab", book.value(2), 9);
    }

    private static void aShorterWordBehindALonger() {
        HyphenBook book = Check.openBook("a9");
        Check.word(book, "a".repeat(63));
        Check.due("value(62)", book.value(62), 9);
        Check.word(book, "bab");
        Check.due("value(1)", book.value(1), 0);
        Check.due("value(2)", book.value(2), 9);
        for (int k = 3; k <= 66; k++) {
            Check.due("value(" + k + ")", book.value(k), HyphenBook.NONE);
        }
        Check.dueValues(book, "b".repeat(63), "0".repeat(62));
    }

    private static void patternsOfThen() {
        HyphenBook book = KnownBook.make();
        Check.pattern(book, "a9b");
        Check.pattern(book, "9b9c9");
        Check.due("value(1)", book.value(1), 2);
        Check.due("value(2)", book.value(2), 4);
        Check.dueValues(book, "abc", "99");
    }

    private static void withAnException() {
        HyphenBook book = Check.openBook("a1b2c3d");
        Check.exception(book, "ab-cd");
        Check.due("word()", Check.word(book, "abcd"), 0b100);
        Check.due("value(1)", book.value(1), 1);
        Check.due("value(2)", book.value(2), 2);
        Check.due("value(3)", book.value(3), 3);
        Check.due("value(4)", book.value(4), HyphenBook.NONE);
        Check.exception(book, "a-b-c-d");
        Check.dueValues(book, "abcd", "123");
    }

    private static void noWordYet() {
        HyphenBook book = new HyphenBook();
        dueNoneAnywhere(book, "nothing");
        Check.pattern(book, "1a1");
        Check.exception(book, "a-a");
        book.least(1, 1);
        Check.draft(book, "aaaa");
        dueNoneAnywhere(book, "calls that ask for no word");
        Check.due("count(3)", book.count(3), 4);
    }

    private static void theFirstThrew() {
        for (String none : new String[] {"", "aa-", "-", "aa1", ".aa", "a".repeat(64), "a".repeat(200)}) {
            HyphenBook book = Check.openBook("1a1");
            Check.due("word() of '" + none + "'", Check.word(book, none), Check.NO_ARGUMENT);
            dueNoneAnywhere(book, "word() of '" + none + "'");
        }
    }

    private static void aLaterOneThrew() {
        for (String none : new String[] {"", "qqqq-", "-", "qq1", ".q", "q".repeat(64), "q".repeat(200)}) {
            HyphenBook book = KnownBook.make();
            Check.due("word() of '" + none + "'", Check.word(book, none), Check.NO_ARGUMENT);
            KnownBook.dueUsedUpAndElseAsMade(book, "word() of '" + none + "'");
        }
    }

    private static void tooSmall() {
        for (int k : new int[] {0, -1, -2, -63, -64, Integer.MIN_VALUE + 1, Integer.MIN_VALUE}) {
            dueNoneChangingNothing(k);
        }
        HyphenBook book = Check.openBook("9a9");
        Check.word(book, "aa");
        Check.due("value(0)", book.value(0), HyphenBook.NONE);
        Check.due("value(1)", book.value(1), 9);
    }

    private static void tooLarge() {
        for (int k : new int[] {3, 4, 62, 63, 64, 65, 66, 257, 65537, Integer.MAX_VALUE - 1, Integer.MAX_VALUE}) {
            dueNoneChangingNothing(k);
        }
        for (int n = 1; n <= 63; n++) {
            HyphenBook book = Check.openBook("9a9");
            Check.word(book, "a".repeat(n));
            Check.due("value(" + (n - 1) + ") of " + n, book.value(n - 1), n == 1 ? HyphenBook.NONE : 9);
            Check.due("value(" + n + ") of " + n, book.value(n), HyphenBook.NONE);
            Check.due("value(" + (n + 1) + ") of " + n, book.value(n + 1), HyphenBook.NONE);
        }
    }

    private static void noPlaceInOneLetter() {
        HyphenBook book = Check.openBook("9a9");
        Check.word(book, "aaaa");
        Check.word(book, "a");
        dueNoneAnywhere(book, "a word of one letter");
    }
}
