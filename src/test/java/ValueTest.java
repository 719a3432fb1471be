/** Promise 7: value. */
public final class ValueTest {
    public static void main(String[] args) {
        places();
        theWordAskedForLast();
        thePatternsThereWereThen();
        Check.end();
    }

    private static void places() {
        HyphenBook book = Check.openBook("1a2b3");
        int[] outside = {0, -1, 4, 5, 63, 64, 65, 66, Integer.MIN_VALUE, Integer.MAX_VALUE, Integer.MAX_VALUE - 1};
        Check.due("value(1) before a word", book.value(1), HyphenBook.NONE);
        Check.word(book, "xabx");
        Check.due("value(1)", book.value(1), 1);
        Check.due("value(2)", book.value(2), 2);
        Check.due("value(3)", book.value(3), 3);
        for (int k : outside) {
            Check.due("value(" + k + ")", book.value(k), HyphenBook.NONE);
        }
        Check.word(book, "a");
        Check.due("value(0) of one letter", book.value(0), HyphenBook.NONE);
        Check.due("value(1) of one letter", book.value(1), HyphenBook.NONE);
    }

    private static void theWordAskedForLast() {
        HyphenBook book = Check.openBook("a1b", "c4d");
        Check.due("word() that throws first", Check.word(book, "ab-"), Check.NO_ARGUMENT);
        Check.due("value(1)", book.value(1), HyphenBook.NONE);
        Check.word(book, "abb");
        String[] noWords = {"", "cd1", "cd.", "c".repeat(64)};
        for (String text : noWords) {
            Check.due("word() of '" + text + "'", Check.word(book, text), Check.NO_ARGUMENT);
            Check.due("value(1) of abb", book.value(1), 1);
            Check.due("value(2) of abb", book.value(2), 0);
            Check.due("value(3) of abb", book.value(3), HyphenBook.NONE);
        }
        Check.exception(book, "cd");
        Check.draft(book, "cdcdcd");
        Check.due("value(1) while drafting", book.value(1), 1);
        Check.wordOfDraft(book);
        Check.dueValues(book, "cdcd", "404");
        Check.dueValues(book, "cd", "4");
    }

    private static void thePatternsThereWereThen() {
        HyphenBook book = Check.openBook("a1b");
        Check.exception(book, "ab-c");
        Check.word(book, "abc");
        Check.pattern(book, "a9bc");
        Check.pattern(book, "b7c");
        book.least(5, 5);
        Check.due("value(1) with an exception", book.value(1), 1);
        Check.due("value(2) with an exception", book.value(2), 0);
        Check.dueValues(book, "abc", "97");
    }
}
