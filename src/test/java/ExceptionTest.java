/** Promise 4: exception, without the limit (FullBookTest has it). */
public final class ExceptionTest {
    public static void main(String[] args) {
        exceptions();
        noExceptions();
        newPlacesInstead();
        onlyTheWholeWord();
        everyByte();
        Check.end();
    }

    private static void exceptions() {
        HyphenBook book = Check.openBook();
        String most = "z" + "-z".repeat(62);
        String[] texts = {"a", "a-b", "ab-c", "a-b-c-d", "abcde", "\u0080-\u00ff", most, "y".repeat(63)};
        for (int i = 0; i < texts.length; i++) {
            Check.due("exception() of " + texts[i], Check.exception(book, texts[i]), i + 1);
            Check.due("count(1)", book.count(1), i + 1);
            Check.due("count(3)", book.count(3), 0);
        }
        Check.due("word() of a", Check.word(book, "a"), 0);
        Check.due("word() of ab", Check.word(book, "ab"), 0b10);
        Check.due("word() of abc", Check.word(book, "abc"), 0b100);
        Check.due("word() of abcd", Check.word(book, "abcd"), 0b1110);
        Check.due("word() of abcde", Check.word(book, "abcde"), 0);
        Check.due("word() of two high letters", Check.word(book, "\u0080\u00ff"), 0b10);
        Check.due("word() of 63 letters", Check.word(book, "z".repeat(63)), Long.MAX_VALUE - 1);
        Check.due("exceptions are no patterns", book.count(0) + book.count(2), 0);
    }

    private static void noExceptions() {
        HyphenBook book = Check.openBook();
        String[] texts = {"", "-", "--", "-a", "a-", "-a-", "a--b", "a-b--c", "a-b-", "-a-b", "a.b", ".a", "a.", "a1b",
            "1a", "A", "a b", "a\u0000", "a`", "a{", "a\u007f", "z".repeat(64), "z".repeat(65), "z".repeat(66),
            "z" + "-z".repeat(63), "z" + "-z".repeat(62) + "-", "z".repeat(200), "-".repeat(200)};
        for (String text : texts) {
            Check.due("exception() of '" + text + "'", Check.exception(book, text), Check.NO_ARGUMENT);
            Check.due("count(1)", book.count(1), 0);
            Check.due("count(3)", book.count(3), 0);
        }
    }

    private static void newPlacesInstead() {
        HyphenBook book = Check.openBook("a1b1c");
        Check.due("exception() of ab-c", Check.exception(book, "ab-c"), 1);
        Check.due("word()", Check.word(book, "abc"), 0b100);
        Check.due("exception() of a-bc", Check.exception(book, "a-bc"), 1);
        Check.due("word()", Check.word(book, "abc"), 0b10);
        Check.due("exception() of abc", Check.exception(book, "abc"), 1);
        Check.due("word()", Check.word(book, "abc"), 0);
        Check.due("exception() that is none", Check.exception(book, "a-b-c-"), Check.NO_ARGUMENT);
        Check.due("word()", Check.word(book, "abc"), 0);
        Check.due("exception() of another word", Check.exception(book, "ab"), 2);
        Check.due("count(1)", book.count(1), 2);
    }

    private static void onlyTheWholeWord() {
        HyphenBook book = Check.openBook("1c");
        Check.exception(book, "a-bcd");
        Check.due("word() of abcd", Check.word(book, "abcd"), 0b10);
        Check.due("word() of abc", Check.word(book, "abc"), 0b100);
        Check.due("word() of abcde", Check.word(book, "abcde"), 0b100);
        Check.due("word() of xabcd", Check.word(book, "xabcd"), 0b1000);
    }

    private static void everyByte() {
        for (int b = 0; b <= 255; b++) {
            HyphenBook book = new HyphenBook();
            boolean letter = b >= 97 && b <= 122 || b >= 128;
            book.put('x' << 16 | b << 8 | 'x', 3);
            boolean between = letter || b == 45;
            Check.due("exception() of byte " + b, Check.exceptionOfDraft(book), between ? 1 : Check.NO_ARGUMENT);
        }
    }
}
