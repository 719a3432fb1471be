/** Promise 6: least. */
public final class LeastTest {
    private static final int[] OUTSIDE = {0, -1, 64, Integer.MIN_VALUE, Integer.MAX_VALUE};

    public static void main(String[] args) {
        HyphenBook book = Check.openBook("a1");
        Check.due("least(3, 1)", book.least(3, 1), true);
        Check.due("word()", Check.word(book, "aaaaaa"), 0b111000);
        Check.due("least(1, 4)", book.least(1, 4), true);
        Check.due("word()", Check.word(book, "aaaaaa"), 0b110);
        wrongOnesChangeNothing(book);
        Check.due("least(3, 3)", book.least(3, 3), true);
        Check.due("word() with one place left", Check.word(book, "aaaaaa"), 0b1000);
        Check.due("least(4, 3)", book.least(4, 3), true);
        Check.due("word() with no place left", Check.word(book, "aaaaaa"), 0);
        Check.due("value(1) is not bound by it", book.value(1), 1);
        longest(book);
        Check.end();
    }

    private static void wrongOnesChangeNothing(HyphenBook book) {
        for (int wrong : OUTSIDE) {
            Check.due("least(" + wrong + ", 2)", book.least(wrong, 2), false);
            Check.due("least(2, " + wrong + ")", book.least(2, wrong), false);
            Check.due("least(" + wrong + ", " + wrong + ")", book.least(wrong, wrong), false);
            Check.due("word()", Check.word(book, "aaaaaa"), 0b110);
        }
    }

    private static void longest(HyphenBook book) {
        String word = "a".repeat(63);
        Check.due("least(62, 1)", book.least(62, 1), true);
        Check.due("word()", Check.word(book, word), 1L << 62);
        Check.due("least(1, 62)", book.least(1, 62), true);
        Check.due("word()", Check.word(book, word), 0b10);
        Check.due("least(63, 1)", book.least(63, 1), true);
        Check.due("word()", Check.word(book, word), 0);
        Check.due("least(1, 63)", book.least(1, 63), true);
        Check.due("word()", Check.word(book, word), 0);
        Check.due("least(63, 63)", book.least(63, 63), true);
        Check.due("word()", Check.word(book, word), 0);
    }
}
