/** The bounds of words, values and cuts, which the terms and promise 5 name. */
public final class WordBoundsTest {
    private static final String TERMS = "Terms of promise 5";
    private static final String WORD = "Promise 5: word";

    public static void main(String[] args) {
        Check.sentence(TERMS, "A WORD is 1 to 63 letters", WordBoundsTest::noLetter);
        Check.sentence(TERMS, "A WORD is 1 to 63 letters", WordBoundsTest::oneLetter);
        Check.sentence(TERMS, "A WORD is 1 to 63 letters", WordBoundsTest::mostLetters);
        Check.sentence(TERMS, "A WORD is 1 to 63 letters", WordBoundsTest::tooManyLetters);
        Check.sentence(TERMS, "The word with an edge at each end is the ROW", WordBoundsTest::edgesOfTheRow);
        String fits = "a pattern FITS at each place of it where its signs stand";
        Check.sentence(TERMS, fits, WordBoundsTest::wholeRow);
        Check.sentence(TERMS, fits, WordBoundsTest::longerThanTheRow);
        Check.sentence(TERMS, fits, WordBoundsTest::eachPlace);
        String value = "The VALUE behind letter k (1 .. n - 1) is the greatest of the numbers"
            + " that patterns which fit anywhere have at that place";
        Check.sentence(TERMS, value, WordBoundsTest::greatest);
        Check.sentence(TERMS, value, WordBoundsTest::firstAndLastPlace);
        Check.sentence(TERMS, "0 without any", WordBoundsTest::withoutAny);
        Check.sentence(TERMS, "if k is at least LEFT", WordBoundsTest::left);
        Check.sentence(TERMS, "and n - k at least RIGHT", WordBoundsTest::right);
        Check.sentence(TERMS, "(at first 2 and 3)", WordBoundsTest::leastAtFirst);
        String told = "if it has an exception, a hyphen stands there";
        Check.sentence(TERMS, told, WordBoundsTest::hyphensAlone);
        Check.sentence(TERMS, told, WordBoundsTest::hyphensWithinLeast);
        Check.sentence(TERMS, "else the value is odd", WordBoundsTest::odd);
        Check.sentence(WORD, "bit k for behind letter k", WordBoundsTest::everyBit);
        Check.sentence(WORD, "bit k for behind letter k", WordBoundsTest::noBitAtTheEnds);
        Check.sentence(WORD, "IllegalArgumentException if it is no word", WordBoundsTest::otherBytes);
        Check.sentence(WORD, "IllegalArgumentException if it is no word", WordBoundsTest::refusedAndThenTaken);
        Check.end();
    }

    private static void dueRefused(String... texts) {
        for (String text : texts) {
            HyphenBook book = KnownBook.make();
            Check.due("word() of '" + text + "'", Check.word(book, text), Check.NO_ARGUMENT);
            KnownBook.dueUsedUpAndElseAsMade(book, "word() of '" + text + "'");
        }
    }

    private static void noLetter() {
        dueRefused("");
        HyphenBook book = KnownBook.make();
        Check.due("word() of nothing", Check.wordOfDraft(book), Check.NO_ARGUMENT);
        Check.due("word() of nothing again", Check.wordOfDraft(book), Check.NO_ARGUMENT);
        KnownBook.dueUsedUpAndElseAsMade(book, "word() of nothing");
    }

    private static void oneLetter() {
        HyphenBook book = Check.openBook("1a1", ".1b1.");
        for (String word : new String[] {"a", "b", "z", "\u0080", "\u00ff"}) {
            Check.due("word() of " + word, Check.word(book, word), 0);
            Check.due("value(0)", book.value(0), HyphenBook.NONE);
            Check.due("value(1)", book.value(1), HyphenBook.NONE);
        }
    }

    private static void mostLetters() {
        HyphenBook book = Check.openBook("a1");
        Check.due("word() of 62 letters", Check.word(book, "a".repeat(62)), Long.MAX_VALUE / 2 - 1);
        Check.due("word() of 63 letters", Check.word(book, "a".repeat(63)), Long.MAX_VALUE - 1);
        Check.due("value(62)", book.value(62), 1);
        Check.due("value(63)", book.value(63), HyphenBook.NONE);
        Check.due("count(3)", book.count(3), 0);
    }

    private static void tooManyLetters() {
        dueRefused("q".repeat(64), "q".repeat(65), "q".repeat(66), "q".repeat(127), "q".repeat(128), "q".repeat(200));
    }

    private static void edgesOfTheRow() {
        Check.dueValues(Check.openBook(".a1"), "aaa", "10");
        Check.dueValues(Check.openBook("1a."), "aaa", "01");
        Check.dueValues(Check.openBook(".a1a."), "aa", "1");
        Check.dueValues(Check.openBook(".a1a."), "aaa", "00");
        Check.dueValues(Check.openBook(".b1", "1b."), "aba", "00");
        HyphenBook book = Check.openBook(".a1", "1a.");
        String longest = "a".repeat(63);
        Check.due("word() of 63 letters", Check.word(book, longest), 1L << 1 | 1L << 62);
    }

    private static void wholeRow() {
        Check.dueValues(Check.openBook(".a1b2c."), "abc", "12");
        Check.dueValues(Check.openBook("a1b2c"), "abc", "12");
        Check.dueValues(Check.openBook("." + "5a".repeat(63) + "."), "a".repeat(63), "5".repeat(62));
        Check.dueValues(Check.openBook("5a".repeat(63)), "a".repeat(63), "5".repeat(62));
    }

    private static void longerThanTheRow() {
        Check.dueValues(Check.openBook("a1b2c"), "ab", "0");
        Check.dueValues(Check.openBook("a1b2c."), "ab", "0");
        Check.dueValues(Check.openBook(".a1b2c"), "bc", "0");
        Check.dueValues(Check.openBook("x1a2b"), "ab", "0");
        Check.dueValues(Check.openBook("5a".repeat(63)), "a".repeat(62), "0".repeat(61));
        HyphenBook book = Check.openBook("a1b2c");
        Check.word(book, "abc");
        Check.dueValues(book, "ab", "0");
    }

    private static void eachPlace() {
        Check.dueValues(Check.openBook("a1a"), "aaaa", "111");
        Check.dueValues(Check.openBook("a1b"), "abab", "101");
        Check.dueValues(Check.openBook("aa1a"), "aaaa", "011");
        Check.dueValues(Check.openBook("ab3a"), "abababx", "030300");
    }

    private static void greatest() {
        for (int high = 1; high <= 9; high++) {
            String lower = "xa" + (high - 1) + "b";
            Check.dueValues(Check.openBook("a" + high + "b", lower), "xab", "0" + high);
            Check.dueValues(Check.openBook(lower, "a" + high + "b"), "xab", "0" + high);
        }
        Check.dueValues(Check.openBook("1a", "aa3", ".a2"), "aaa", "23");
        Check.dueValues(Check.openBook("9a", "aa8"), "aaa", "99");
        HyphenBook book = Check.openBook("a2b", "xa1b");
        Check.due("word(), the greatest even", Check.word(book, "xab"), 0);
    }

    private static void firstAndLastPlace() {
        Check.dueValues(Check.openBook("1a"), "aa", "1");
        Check.dueValues(Check.openBook(".7a8"), "ab", "8");
        Check.dueValues(Check.openBook("8b7."), "ab", "8");
        HyphenBook book = Check.openBook("1a2");
        Check.dueValues(book, "abbba", "2001");
    }

    private static void withoutAny() {
        Check.dueValues(Check.openBook(), "abc", "00");
        Check.dueValues(Check.openBook("1x1"), "abc", "00");
        HyphenBook book = Check.openBook("9a9");
        Check.dueValues(book, "aaa", "99");
        Check.dueValues(book, "bbb", "00");
        Check.due("word()", Check.word(book, "bbb"), 0);
    }

    private static void left() {
        HyphenBook book = Check.openBook("a1");
        for (int left = 1; left <= 63; left++) {
            book.least(left, 1);
            long due = 0;
            for (int k = left; k <= 4; k++) {
                due |= 1L << k;
            }
            Check.due("word() with LEFT " + left, Check.word(book, "aaaaa"), due);
        }
    }

    private static void right() {
        HyphenBook book = Check.openBook("a1");
        for (int right = 1; right <= 63; right++) {
            book.least(1, right);
            long due = 0;
            for (int k = 1; k <= 5 - right; k++) {
                due |= 1L << k;
            }
            Check.due("word() with RIGHT " + right, Check.word(book, "aaaaa"), due);
        }
    }

    private static void leastAtFirst() {
        HyphenBook book = new HyphenBook();
        Check.pattern(book, "a1");
        Check.due("word() of 1 letter", Check.word(book, "a"), 0);
        Check.due("word() of 2 letters", Check.word(book, "aa"), 0);
        Check.due("word() of 3 letters", Check.word(book, "aaa"), 0);
        Check.due("word() of 4 letters", Check.word(book, "aaaa"), 0);
        Check.due("word() of 5 letters", Check.word(book, "aaaaa"), 0b100);
        Check.due("word() of 6 letters", Check.word(book, "aaaaaa"), 0b1100);
        Check.due("word() of 63 letters", Check.word(book, "a".repeat(63)), (1L << 61) - 4);
    }

    private static void hyphensAlone() {
        HyphenBook book = Check.openBook("a1b2c1d");
        Check.exception(book, "ab-cd");
        Check.due("word() with one hyphen", Check.word(book, "abcd"), 0b100);
        Check.exception(book, "abcd");
        Check.due("word() without hyphens", Check.word(book, "abcd"), 0);
        Check.due("word() with a letter more", Check.word(book, "abcde"), 0b1010);
        Check.due("word() with a letter ahead", Check.word(book, "eabcd"), 0b10100);
        Check.due("word() with a letter fewer", Check.word(book, "bcd"), 0);
    }

    private static void hyphensWithinLeast() {
        HyphenBook book = new HyphenBook();
        Check.exception(book, "a-b-c-d-e-f");
        Check.due("word() with LEFT 2 and RIGHT 3", Check.word(book, "abcdef"), 0b1100);
        book.least(3, 2);
        Check.due("word() with LEFT 3 and RIGHT 2", Check.word(book, "abcdef"), 0b11000);
        book.least(1, 1);
        Check.due("word() with LEFT 1 and RIGHT 1", Check.word(book, "abcdef"), 0b111110);
        book.least(3, 4);
        Check.due("word() with LEFT 3 and RIGHT 4", Check.word(book, "abcdef"), 0);
    }

    private static void odd() {
        for (int digit = 0; digit <= 9; digit++) {
            HyphenBook book = Check.openBook("a" + digit + "b");
            Check.due("word() with the value " + digit, Check.word(book, "ab"), digit % 2 == 1 ? 0b10 : 0);
        }
    }

    private static void everyBit() {
        for (int k = 1; k <= 62; k++) {
            HyphenBook book = Check.openBook("b1");
            String word = "a".repeat(k - 1) + "b" + "a".repeat(63 - k);
            Check.due("word() with a cut behind " + k, Check.word(book, word), 1L << k);
        }
    }

    private static void noBitAtTheEnds() {
        HyphenBook book = Check.openBook(".1a", "a1.", "1b1");
        Check.due("word() of aa", Check.word(book, "aa"), 0);
        Check.due("word() of b", Check.word(book, "b"), 0);
        Check.due("word() of bab", Check.word(book, "bab"), 0b110);
        Check.due("word() of 63 letters", Check.word(book, "b" + "a".repeat(61) + "b"), 1L << 1 | 1L << 62);
    }

    private static void otherBytes() {
        dueRefused("q-q", "-q", "q-", ".q", "q.", "q.q", "q1q", "1q", "q1", "qQ", "Q", "q q", "-", ".", "1");
        dueRefused("\u0000", "q\u0000", "q\u007f", "q`", "q{", "q".repeat(62) + "-");
    }

    /** The next word is not changed by letters that a refused draft had ahead of its fault. */
    private static void refusedAndThenTaken() {
        HyphenBook book = Check.openBook("a1");
        Check.due("word() of aaa-", Check.word(book, "aaa-"), Check.NO_ARGUMENT);
        Check.due("value(1)", book.value(1), HyphenBook.NONE);
        Check.due("word() of aa", Check.word(book, "aa"), 0b10);
        Check.due("word() of 64 letters", Check.word(book, "a".repeat(64)), Check.NO_ARGUMENT);
        Check.due("value(2)", book.value(2), HyphenBook.NONE);
        Check.due("word() of ba", Check.word(book, "ba"), 0);
    }
}
