/** The bounds of bytes, letters, digits, edge and hyphen, which the terms name. */
public final class BytesBoundsTest {
    public static void main(String[] args) {
        Check.sentence("Terms of promise 2", "BYTES are 0 .. 255", BytesBoundsTest::leastAndGreatestByte);
        String letters = "LETTERS are the bytes 97 .. 122 and 128 .. 255";
        Check.sentence("Terms of promise 5", letters, BytesBoundsTest::lettersOfWords);
        Check.sentence("Terms of promise 3", letters, BytesBoundsTest::lettersOfPatterns);
        Check.sentence("Terms of promise 4", letters, BytesBoundsTest::lettersOfExceptions);
        Check.sentence("Terms of promises 3 and 4", letters, BytesBoundsTest::lettersAreAllUnlike);
        Check.sentence("Terms of promise 3", "DIGITS 48 .. 57", BytesBoundsTest::digits);
        Check.sentence("Terms of promise 3", "the EDGE is 46", BytesBoundsTest::edgeAhead);
        Check.sentence("Terms of promise 3", "the EDGE is 46", BytesBoundsTest::edgeBehind);
        Check.sentence("Terms of promise 4", "the HYPHEN 45", BytesBoundsTest::hyphen);
        Check.sentence("Terms of promise 5", "the EDGE is 46, the HYPHEN 45", BytesBoundsTest::noneOfThemInAWord);
        Check.end();
    }

    private static boolean letter(int b) {
        return b >= 97 && b <= 122 || b >= 128;
    }

    private static boolean digit(int b) {
        return b >= 48 && b <= 57;
    }

    private static HyphenBook bookWithDraft(String text) {
        HyphenBook book = new HyphenBook();
        book.least(1, 1);
        Check.draft(book, text);
        return book;
    }

    private static void leastAndGreatestByte() {
        HyphenBook book = new HyphenBook();
        Check.due("put() of the byte 0", book.put(0, 1), true);
        Check.due("word() of the byte 0", Check.wordOfDraft(book), Check.NO_ARGUMENT);
        Check.due("put() of the byte 255", book.put(255, 1), true);
        Check.due("word() of the byte 255", Check.wordOfDraft(book), 0);
        Check.due("put() of 256, whose lowest byte is 0", book.put(256, 1), true);
        Check.due("word() of the byte 0", Check.wordOfDraft(book), Check.NO_ARGUMENT);
        Check.due("put() of -1, whose lowest byte is 255", book.put(-1, 1), true);
        Check.due("word() of the byte 255", Check.wordOfDraft(book), 0);
        Check.due("put() of -128, whose lowest byte is 128", book.put(-128, 1), true);
        Check.due("word() of the byte 128", Check.wordOfDraft(book), 0);
        Check.due("put() of -129, whose lowest byte is 127", book.put(-129, 1), true);
        Check.due("word() of the byte 127", Check.wordOfDraft(book), Check.NO_ARGUMENT);
    }

    private static void lettersOfWords() {
        for (int b = 0; b <= 255; b++) {
            long got = Check.wordOfDraft(bookWithDraft("" + (char) b));
            Check.due("word() of the byte " + b, got, letter(b) ? 0 : Check.NO_ARGUMENT);
        }
    }

    private static void lettersOfPatterns() {
        for (int b = 0; b <= 255; b++) {
            long got = Check.patternOfDraft(bookWithDraft("" + (char) b));
            Check.due("pattern() of the byte " + b, got, letter(b) ? 1 : Check.NO_ARGUMENT);
        }
    }

    private static void lettersOfExceptions() {
        for (int b = 0; b <= 255; b++) {
            long got = Check.exceptionOfDraft(bookWithDraft("" + (char) b));
            Check.due("exception() of the byte " + b, got, letter(b) ? 1 : Check.NO_ARGUMENT);
        }
    }

    private static void lettersAreAllUnlike() {
        HyphenBook patterns = new HyphenBook();
        HyphenBook exceptions = new HyphenBook();
        int letters = 0;
        for (int b = 0; b <= 255; b++) {
            if (letter(b)) {
                letters++;
                Check.due("pattern() of the byte " + b, Check.pattern(patterns, "" + (char) b), letters);
                Check.due("exception() of the byte " + b, Check.exception(exceptions, "" + (char) b), letters);
            }
        }
        Check.due("letters", letters, 26 + 128);
        Check.due("count(2)", patterns.count(2), letters);
    }

    private static void digits() {
        for (int b = 0; b <= 255; b++) {
            HyphenBook book = bookWithDraft("a" + (char) b + "b");
            boolean pattern = letter(b) || digit(b);
            Check.due("pattern() with the byte " + b, Check.patternOfDraft(book), pattern ? 1 : Check.NO_ARGUMENT);
            Check.dueValues(book, "ab", digit(b) ? "" + (char) b : "0");
        }
    }

    private static void edgeAhead() {
        for (int b = 0; b <= 255; b++) {
            HyphenBook book = bookWithDraft((char) b + "a5");
            boolean pattern = letter(b) || digit(b) || b == 46;
            Check.due("pattern() with the byte " + b, Check.patternOfDraft(book), pattern ? 1 : Check.NO_ARGUMENT);
            if (b == 46) {
                Check.dueValues(book, "aba", "50");
            }
        }
    }

    private static void edgeBehind() {
        for (int b = 0; b <= 255; b++) {
            HyphenBook book = bookWithDraft("5a" + (char) b);
            boolean pattern = letter(b) || digit(b) || b == 46;
            Check.due("pattern() with the byte " + b, Check.patternOfDraft(book), pattern ? 1 : Check.NO_ARGUMENT);
            if (b == 46) {
                Check.dueValues(book, "aba", "05");
            }
        }
    }

    private static void hyphen() {
        for (int b = 0; b <= 255; b++) {
            HyphenBook book = bookWithDraft("a" + (char) b + "b");
            boolean exception = letter(b) || b == 45;
            Check.due("exception() with the byte " + b, Check.exceptionOfDraft(book),
                exception ? 1 : Check.NO_ARGUMENT);
            Check.due("word() with the byte " + b, Check.word(book, "ab"), b == 45 ? 0b10 : 0);
        }
    }

    private static void noneOfThemInAWord() {
        for (int b = 0; b <= 127; b++) {
            for (String text : new String[] {(char) b + "ab", "a" + (char) b + "b", "ab" + (char) b}) {
                long got = Check.wordOfDraft(bookWithDraft(text));
                Check.due("word() of '" + text + "'", got, letter(b) ? 0 : Check.NO_ARGUMENT);
            }
        }
    }
}
