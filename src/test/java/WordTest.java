/** Promise 5: word, with the values and cuts of the terms. */
public final class WordTest {
    public static void main(String[] args) {
        knownWord();
        noWords();
        longestWord();
        greatestCounts();
        edgesFitAtTheEndsOnly();
        exceptionsGoAhead();
        everyByte();
        Check.end();
    }

    private static void knownWord() {
        HyphenBook book = new HyphenBook();
        String[] patterns = {"hy3ph", "he2n", "hena4", "hen5at", "1na", "n2at", "1tio", "2io", "o2n"};
        for (String text : patterns) {
            Check.pattern(book, text);
        }
        Check.due("word() of hyphenation", Check.word(book, "hyphenation"), 1L << 2 | 1L << 6);
        Check.dueValues(book, "hyphenation", "0300254202");
        Check.due("word() of hyphe", Check.word(book, "hyphe"), 1L << 2);
        Check.due("word() of hyph", Check.word(book, "hyph"), 0);
    }

    private static void noWords() {
        HyphenBook book = Check.openBook("a1");
        String[] texts = {"", "-", "a-b", "a.", ".a", "a1", "1", "A", "aB", "a b", "a\u0000", "a`", "a{", "a\u007f",
            "a".repeat(64), "a".repeat(65), "a".repeat(200)};
        for (String text : texts) {
            Check.due("word() of '" + text + "'", Check.word(book, text), Check.NO_ARGUMENT);
            Check.due("count(3)", book.count(3), 0);
            Check.due("value(1)", book.value(1), HyphenBook.NONE);
        }
        Check.due("word() of aa", Check.word(book, "aa"), 0b10);
        Check.due("count(3)", book.count(3), 0);
    }

    private static void longestWord() {
        HyphenBook book = Check.openBook("a1");
        Check.due("word() of 63 letters", Check.word(book, "a".repeat(63)), Long.MAX_VALUE - 1);
        Check.due("word() of 1 letter", Check.word(book, "a"), 0);
        String all = "." + "7b".repeat(63) + "7.";
        Check.due("pattern() of 65 signs", Check.pattern(book, all), 2);
        Check.due("word() of 63 letters", Check.word(book, "b".repeat(63)), Long.MAX_VALUE - 1);
        Check.due("word() of 62 letters", Check.word(book, "b".repeat(62)), 0);
        Check.dueValues(book, "b".repeat(63), "7".repeat(62));
    }

    private static void greatestCounts() {
        Check.dueValues(Check.openBook("a1b", "xa2b", "ab1c"), "xabc", "021");
        Check.dueValues(Check.openBook("xa2b", "a1b"), "xabc", "020");
        Check.dueValues(Check.openBook("a8b", "a9bc", "a7bcd"), "abcdab", "90008");
        Check.dueValues(Check.openBook("a1a", "a2a3a"), "aaaa", "233");
        HyphenBook book = Check.openBook("a2b", "xa3b");
        Check.due("word() of abxab", Check.word(book, "abxab"), 0b10000);
    }

    private static void edgesFitAtTheEndsOnly() {
        Check.dueValues(Check.openBook(".a1a"), "aaaa", "100");
        Check.dueValues(Check.openBook("a1a."), "aaaa", "001");
        Check.dueValues(Check.openBook(".a1a."), "aaaa", "000");
        Check.dueValues(Check.openBook(".a1a."), "aa", "1");
        Check.dueValues(Check.openBook(".a9"), "aaa", "90");
        Check.dueValues(Check.openBook("9a."), "aaa", "09");
    }

    private static void exceptionsGoAhead() {
        HyphenBook book = Check.openBook("a1b2c1d");
        Check.due("word() without exception", Check.word(book, "abcd"), 0b1010);
        Check.exception(book, "ab-cd");
        Check.due("word() with exception", Check.word(book, "abcd"), 0b100);
        Check.due("value(1) with exception", book.value(1), 1);
        Check.due("value(2) with exception", book.value(2), 2);
        Check.exception(book, "a-b-c-d");
        book.least(2, 2);
        Check.due("word() with exception and least ends", Check.word(book, "abcd"), 0b100);
    }

    private static void everyByte() {
        for (int b = 0; b <= 255; b++) {
            HyphenBook book = Check.openBook("x1");
            boolean letter = b >= 97 && b <= 122 || b >= 128;
            book.put('x' << 8 | b, 2);
            Check.due("word() of byte " + b, Check.wordOfDraft(book), letter ? 0b10 : Check.NO_ARGUMENT);
        }
    }
}
