/**
 * A full book, which the terms and promises 3 and 4 name. An object cannot be filled within its 512
 * calls, so the document leaves these answers free; the book keeps to its limits all the same.
 */
public final class FullBookTest {
    private static final String PATTERN = "Promise 3: pattern";
    private static final String EXCEPTION = "Promise 4: exception";

    public static void main(String[] args) {
        String patterns = "or there would be more than 8192";
        Check.sentence("Terms of promise 3", "The book has at most 8192 patterns", FullBookTest::justFullOfPatterns);
        Check.sentence(PATTERN, patterns, FullBookTest::onePatternTooMany);
        Check.sentence(PATTERN, patterns, FullBookTest::noneInABookFullOfPatterns);
        String beginnings = "or more than 32768 beginnings";
        Check.sentence("Terms of promise 3", "there are at most 32768", FullBookTest::justFullOfBeginnings);
        Check.sentence(PATTERN, beginnings, FullBookTest::oneBeginningTooMany);
        Check.sentence(PATTERN, beginnings, FullBookTest::manyBeginningsTooMany);
        Check.sentence(PATTERN, beginnings, FullBookTest::noNewBeginningInAFullBook);
        String exceptions = "IllegalStateException if these would be more than 2048";
        Check.sentence("Terms of promise 4", "The book has at most 2048 words with exceptions",
            FullBookTest::justFullOfExceptions);
        Check.sentence(EXCEPTION, exceptions, FullBookTest::oneExceptionTooMany);
        Check.sentence(EXCEPTION, exceptions, FullBookTest::noneInABookFullOfExceptions);
        Check.sentence("Terms of promise 4", "a word that has one gets the places of the new one instead",
            FullBookTest::newPlacesInAFullBook);
        Check.end();
    }

    /** Four letters that are others for every i. */
    private static String letters(int i) {
        char[] letters = new char[4];
        int rest = i;
        for (int at = 3; at >= 0; at--) {
            letters[at] = (char) ('a' + rest % 26);
            rest /= 26;
        }
        return new String(letters);
    }

    private static HyphenBook bookOfPatterns(int patterns) {
        HyphenBook book = Check.openBook();
        for (int i = 0; i < patterns; i++) {
            Check.due("pattern() " + (i + 1), Check.pattern(book, letters(i)), i + 1);
        }
        return book;
    }

    private static HyphenBook bookOfExceptions(int words) {
        HyphenBook book = Check.openBook();
        for (int i = 0; i < words; i++) {
            Check.due("exception() " + (i + 1), Check.exception(book, letters(i)), i + 1);
        }
        return book;
    }

    /** Long patterns, up to just so many beginnings. */
    private static HyphenBook bookOfBeginnings(int beginnings) {
        HyphenBook book = Check.openBook();
        String tail = "x".repeat(59);
        for (int i = 0; book.count(2) + 63 <= beginnings; i++) {
            Check.due("pattern() " + (i + 1), Check.pattern(book, letters(i) + tail), i + 1);
        }
        int room = beginnings - book.count(2);
        if (room > 0) {
            Check.pattern(book, "\u00ff".repeat(room));
        }
        Check.due("count(2)", book.count(2), beginnings);
        return book;
    }

    private static void dueCounts(HyphenBook book, int patterns, int exceptions, int beginnings) {
        Check.due("count(0)", book.count(0), patterns);
        Check.due("count(1)", book.count(1), exceptions);
        Check.due("count(2)", book.count(2), beginnings);
        Check.due("count(3)", book.count(3), 0);
    }

    private static void justFullOfPatterns() {
        HyphenBook book = bookOfPatterns(8191);
        Check.due("pattern() 8192", Check.pattern(book, "z1z"), 8192);
        Check.due("count(0)", book.count(0), 8192);
        Check.dueValues(book, "zzz", "11");
    }

    private static void onePatternTooMany() {
        HyphenBook book = bookOfPatterns(8192);
        int beginnings = book.count(2);
        Check.word(book, "abc");
        for (String text : new String[] {"z1z", "a1", "a1a", letters(8192), ".z1"}) {
            Check.due("pattern() of " + text, Check.pattern(book, text), Check.NO_STATE);
            dueCounts(book, 8192, 0, beginnings);
            Check.due("value(2) of abc", book.value(2), 0);
            Check.due("value(3) of abc", book.value(3), HyphenBook.NONE);
        }
        Check.dueValues(book, "zzaa", "000");
        Check.due("exception() in a book full of patterns", Check.exception(book, "z-z"), 1);
    }

    private static void noneInABookFullOfPatterns() {
        HyphenBook book = bookOfPatterns(8192);
        int beginnings = book.count(2);
        Check.due("pattern() that is none", Check.pattern(book, "z11z"), Check.NO_ARGUMENT);
        Check.due("pattern() with the same signs", Check.pattern(book, "a1aaa"), Check.NO_STATE);
        dueCounts(book, 8192, 0, beginnings);
        Check.dueValues(book, "aaaa", "000");
    }

    private static void justFullOfBeginnings() {
        HyphenBook book = bookOfBeginnings(32767);
        int patterns = book.count(0);
        Check.due("pattern() with the last beginning", Check.pattern(book, "z1"), patterns + 1);
        dueCounts(book, patterns + 1, 0, 32768);
        Check.dueValues(book, "zz", "1");
    }

    private static void oneBeginningTooMany() {
        HyphenBook book = bookOfBeginnings(32768);
        int patterns = book.count(0);
        Check.word(book, "abc");
        for (String text : new String[] {"z1", "a1z", "aaaa1y", "aaaaz", "z1z", ".z1"}) {
            Check.due("pattern() of " + text, Check.pattern(book, text), Check.NO_STATE);
            dueCounts(book, patterns, 0, 32768);
            Check.due("value(2) of abc", book.value(2), 0);
            Check.due("value(3) of abc", book.value(3), HyphenBook.NONE);
        }
        Check.dueValues(book, "zzaz", "000");
        Check.due("pattern() that is none", Check.pattern(book, "z11"), Check.NO_ARGUMENT);
        dueCounts(book, patterns, 0, 32768);
    }

    /** With room for one beginning, nothing of a pattern with more of them stays. */
    private static void manyBeginningsTooMany() {
        HyphenBook book = bookOfBeginnings(32767);
        int patterns = book.count(0);
        for (String text : new String[] {"zz", "." + "z".repeat(63) + ".", "aaaaxyz"}) {
            Check.due("pattern() of " + text, Check.pattern(book, text), Check.NO_STATE);
            dueCounts(book, patterns, 0, 32767);
        }
        Check.due("pattern() with one", Check.pattern(book, "aaaaxy"), patterns + 1);
        dueCounts(book, patterns + 1, 0, 32768);
    }

    private static void noNewBeginningInAFullBook() {
        HyphenBook book = bookOfBeginnings(32768);
        int patterns = book.count(0);
        Check.due("pattern() of an old beginning", Check.pattern(book, "a1a"), patterns + 1);
        dueCounts(book, patterns + 1, 0, 32768);
        Check.dueValues(book, "aaz", "10");
        Check.due("pattern() of it again", Check.pattern(book, "aa"), Check.NO_STATE);
        dueCounts(book, patterns + 1, 0, 32768);
    }

    private static void justFullOfExceptions() {
        HyphenBook book = bookOfExceptions(2047);
        Check.due("exception() 2048", Check.exception(book, "z-z"), 2048);
        dueCounts(book, 0, 2048, 0);
        Check.due("word() of zz", Check.word(book, "zz"), 0b10);
    }

    private static void oneExceptionTooMany() {
        HyphenBook book = bookOfExceptions(2048);
        Check.word(book, "abc");
        for (String text : new String[] {"z-z", "a", "a-aa", "aa-aaa", letters(2048)}) {
            Check.due("exception() of " + text, Check.exception(book, text), Check.NO_STATE);
            dueCounts(book, 0, 2048, 0);
            Check.due("value(2) of abc", book.value(2), 0);
            Check.due("value(3) of abc", book.value(3), HyphenBook.NONE);
        }
        Check.due("word() of zz", Check.word(book, "zz"), 0);
        Check.due("word() of aaa", Check.word(book, "aaa"), 0);
        Check.due("pattern() in a book full of exceptions", Check.pattern(book, "z1z"), 1);
    }

    private static void noneInABookFullOfExceptions() {
        HyphenBook book = bookOfExceptions(2048);
        Check.due("exception() that is none", Check.exception(book, "z--z"), Check.NO_ARGUMENT);
        Check.due("exception() that is none of an old word", Check.exception(book, "a-aaa-"), Check.NO_ARGUMENT);
        dueCounts(book, 0, 2048, 0);
        Check.due("word() of aaaa", Check.word(book, "aaaa"), 0);
    }

    private static void newPlacesInAFullBook() {
        HyphenBook book = bookOfExceptions(2048);
        Check.due("exception() of an old word", Check.exception(book, "aa-aa"), 2048);
        dueCounts(book, 0, 2048, 0);
        Check.due("word() with the new places", Check.word(book, "aaaa"), 0b100);
        Check.due("word() beside it", Check.word(book, "aaab"), 0);
    }
}
