/**
 * The limits of promises 3 and 4. An object cannot reach them within its 512 calls, so the document
 * leaves these answers free; the book keeps to its limits all the same.
 */
public final class LimitsTest {
    public static void main(String[] args) {
        mostPatterns();
        mostBeginnings();
        mostExceptions();
        Check.end();
    }

    /** Four letters that are others for every i. */
    private static String letters(int i) {
        char[] letters = new char[4];
        int rest = i;
        for (int at = 3; at >= 0; at--) {
            letters[at] = (char) ('a' + rest % 26);
            rest /= 26;
        }
        return new String(letters);
    }

    private static void mostPatterns() {
        HyphenBook book = new HyphenBook();
        for (int i = 0; i < 8192; i++) {
            Check.due("pattern() " + i, Check.pattern(book, letters(i)), i + 1);
        }
        int beginnings = book.count(2);
        Check.due("pattern() 8193", Check.pattern(book, letters(8192)), Check.NO_STATE);
        Check.due("pattern() of a beginning", Check.pattern(book, "a"), Check.NO_STATE);
        Check.due("count(0)", book.count(0), 8192);
        Check.due("count(2)", book.count(2), beginnings);
        Check.due("count(3)", book.count(3), 0);
    }

    private static void mostBeginnings() {
        HyphenBook book = new HyphenBook();
        String tail = "x".repeat(59);
        int patterns = 0;
        while (book.count(2) + 63 <= 32768) {
            Check.pattern(book, letters(patterns) + tail);
            patterns++;
        }
        int room = 32768 - book.count(2);
        Check.due("one beginning too many", Check.pattern(book, "\u00ff".repeat(room + 1)), Check.NO_STATE);
        Check.due("count(2) is as it was", book.count(2), 32768 - room);
        Check.due("count(0) is as it was", book.count(0), patterns);
        Check.due("the last beginnings", Check.pattern(book, "\u00ff".repeat(room)), patterns + 1);
        Check.due("count(2)", book.count(2), 32768);
        Check.due("a new beginning", Check.pattern(book, "\u00fe"), Check.NO_STATE);
        Check.due("a new beginning behind old ones", Check.pattern(book, "aaaay"), Check.NO_STATE);
        Check.due("no new beginning", Check.pattern(book, "aaaax"), patterns + 2);
        Check.due("count(2)", book.count(2), 32768);
    }

    private static void mostExceptions() {
        HyphenBook book = Check.openBook();
        for (int i = 0; i < 2048; i++) {
            Check.due("exception() " + i, Check.exception(book, letters(i)), i + 1);
        }
        Check.due("exception() 2049", Check.exception(book, letters(2048)), Check.NO_STATE);
        Check.due("exception() of part of a word", Check.exception(book, "aaa"), Check.NO_STATE);
        Check.due("count(1)", book.count(1), 2048);
        Check.due("count(3)", book.count(3), 0);
        Check.due("exception() of an old word", Check.exception(book, "aa-aa"), 2048);
        Check.due("word() with the new places", Check.word(book, "aaaa"), 0b100);
    }
}
