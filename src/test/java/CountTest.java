/** Promise 8: count. */
public final class CountTest {
    public static void main(String[] args) {
        eachOfItsOwn();
        beginnings();
        Check.end();
    }

    private static void eachOfItsOwn() {
        HyphenBook book = Check.openBook("abc", "abd");
        Check.exception(book, "x-yz");
        Check.exception(book, "xy");
        Check.exception(book, "y");
        Check.draft(book, "1234567");
        Check.due("count(0)", book.count(0), 2);
        Check.due("count(1)", book.count(1), 3);
        Check.due("count(2)", book.count(2), 4);
        Check.due("count(3)", book.count(3), 7);
        int[] others = {-1, 4, 5, Integer.MIN_VALUE, Integer.MAX_VALUE};
        for (int what : others) {
            Check.due("count(" + what + ")", book.count(what), HyphenBook.NONE);
        }
    }

    private static void beginnings() {
        HyphenBook book = Check.openBook();
        String[] texts = {"abc", "a1b", "bc", ".abc", ".a1b.", "abc.", "a", "b1cd", "bc", "a11", "\u00ff"};
        int[] due = {3, 3, 5, 9, 10, 11, 11, 12, 12, 12, 13};
        for (int i = 0; i < texts.length; i++) {
            Check.pattern(book, texts[i]);
            Check.due("count(2) behind " + texts[i], book.count(2), due[i]);
        }
        Check.word(book, "zzz");
        Check.exception(book, "z-zz");
        Check.due("count(2)", book.count(2), 13);
    }
}
