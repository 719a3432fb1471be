/** Promise 2: put. */
public final class PutTest {
    public static void main(String[] args) {
        lowestBytesHighestFirst();
        wrongLengths();
        atMostTwoHundred();
        Check.end();
    }

    private static void lowestBytesHighestFirst() {
        HyphenBook book = Check.openBook("a1b", "b3c", "h5\u00ff");
        Check.due("put of 1 byte", book.put(0x7A7A7A7A7A7A7A61L, 1), true);
        Check.due("count(3)", book.count(3), 1);
        Check.due("put of 2 bytes", book.put(0x7A7A7A7A7A7A6263L, 2), true);
        Check.due("count(3)", book.count(3), 3);
        Check.due("word() of abc", Check.wordOfDraft(book), 0b110);
        Check.due("value(1)", book.value(1), 1);
        Check.due("value(2)", book.value(2), 3);
        Check.due("put of 8 bytes, the highest negative", book.put(0xFF62636465666768L, 8), true);
        Check.due("put of the byte 255", book.put(-1L, 1), true);
        Check.due("count(3)", book.count(3), 9);
        Check.due("word()", Check.wordOfDraft(book), 0b100000100);
        Check.due("value(8)", book.value(8), 5);
        Check.due("value(9)", book.value(9), HyphenBook.NONE);
    }

    private static void wrongLengths() {
        HyphenBook book = Check.openBook();
        Check.draft(book, "ab");
        int[] lengths = {0, -1, 9, 64, Integer.MIN_VALUE, Integer.MAX_VALUE, Integer.MAX_VALUE - 1};
        for (int n : lengths) {
            Check.due("put(97, " + n + ")", book.put(97, n), false);
            Check.due("count(3)", book.count(3), 2);
        }
        for (int n = 1; n <= 8; n++) {
            Check.due("put(97, " + n + ")", book.put(97, n), true);
        }
        Check.due("count(3)", book.count(3), 38);
    }

    private static void atMostTwoHundred() {
        HyphenBook book = Check.openBook();
        for (int i = 0; i < 24; i++) {
            book.put(0x6161616161616161L, 8);
        }
        Check.due("count(3)", book.count(3), 192);
        Check.due("put up to 199", book.put(0x61616161616161L, 7), true);
        Check.due("put up to 201", book.put(0x6161L, 2), false);
        Check.due("put up to 207", book.put(0x6161L, 8), false);
        Check.due("count(3)", book.count(3), 199);
        Check.due("put up to 200", book.put(0x61L, 1), true);
        Check.due("put up to 201", book.put(0x61L, 1), false);
        Check.due("count(3)", book.count(3), 200);
        Check.due("word() of 200 letters", Check.wordOfDraft(book), Check.NO_ARGUMENT);
        Check.due("count(3) when used up", book.count(3), 0);
        Check.due("put again", book.put(0x61L, 1), true);
        Check.due("word() of the new draft alone", Check.wordOfDraft(book), 0);
    }
}
