/** The bounds that "What it is", the constants and promise 1 name. */
public final class ObjectBoundsTest {
    private static final int MOST_CALLS = 512;

    public static void main(String[] args) {
        String calls = "An object is used for at most 512 calls after it has been made";
        Check.sentence("What it is, for promise 3", calls, ObjectBoundsTest::lastCallIsAPattern);
        Check.sentence("What it is, for promise 4", calls, ObjectBoundsTest::lastCallIsAnException);
        Check.sentence("What it is, for promise 5", calls, ObjectBoundsTest::lastCallIsAWord);
        Check.sentence("What it is, for promise 8", calls, ObjectBoundsTest::mostBeginningsInTheseCalls);
        Check.sentence("Terms of promises 7 and 8", "NONE = -1", ObjectBoundsTest::none);
        String anew = "Promise 1: A new object";
        Check.sentence(anew, "No patterns", ObjectBoundsTest::noPatterns);
        Check.sentence(anew, "no exceptions", ObjectBoundsTest::noExceptions);
        Check.sentence(anew, "nothing drafted", ObjectBoundsTest::nothingDrafted);
        Check.sentence(anew, "No patterns, no exceptions, nothing drafted", ObjectBoundsTest::newBesideAUsedOne);
        Check.end();
    }

    /** Two letters that are others for every i below 16384. */
    private static String twoLetters(int i) {
        return "" + (char) (128 + i / 128) + (char) (128 + i % 128);
    }

    private static void lastCallIsAPattern() {
        HyphenBook book = new HyphenBook();
        for (int i = 0; i < MOST_CALLS / 2; i++) {
            Check.due("pattern() " + (i + 1), Check.pattern(book, twoLetters(i)), i + 1);
        }
    }

    private static void lastCallIsAnException() {
        HyphenBook book = new HyphenBook();
        for (int i = 0; i < MOST_CALLS / 2; i++) {
            Check.due("exception() " + (i + 1), Check.exception(book, twoLetters(i)), i + 1);
        }
    }

    private static void lastCallIsAWord() {
        HyphenBook book = new HyphenBook();
        Check.pattern(book, "a1");
        for (int call = 2; call < MOST_CALLS; call += 2) {
            Check.due("word() at call " + (call + 2), Check.word(book, "aaaaa"), 0b100);
        }
    }

    /** 63 letters take 8 calls of put: 56 patterns in 504 calls. */
    private static void mostBeginningsInTheseCalls() {
        HyphenBook book = new HyphenBook();
        for (int i = 0; i < 56; i++) {
            String text = (char) (128 + i) + "z".repeat(62);
            Check.due("pattern() " + (i + 1), Check.pattern(book, text), i + 1);
        }
        Check.due("count(2)", book.count(2), 56 * 63);
    }

    private static void none() {
        Check.due("NONE", HyphenBook.NONE, -1);
    }

    private static void noPatterns() {
        HyphenBook book = new HyphenBook();
        Check.due("count(0)", book.count(0), 0);
        Check.due("count(2)", book.count(2), 0);
        book.least(1, 1);
        Check.due("word()", Check.word(book, "abcde"), 0);
        Check.dueValues(book, "abcde", "0000");
    }

    private static void noExceptions() {
        HyphenBook book = new HyphenBook();
        Check.due("count(1)", book.count(1), 0);
        book.least(1, 1);
        Check.pattern(book, "a1");
        Check.due("word()", Check.word(book, "aaa"), 0b110);
    }

    private static void nothingDrafted() {
        Check.due("count(3)", new HyphenBook().count(3), 0);
        Check.due("pattern()", Check.patternOfDraft(new HyphenBook()), Check.NO_ARGUMENT);
        Check.due("exception()", Check.exceptionOfDraft(new HyphenBook()), Check.NO_ARGUMENT);
        Check.due("word()", Check.wordOfDraft(new HyphenBook()), Check.NO_ARGUMENT);
        HyphenBook book = new HyphenBook();
        for (int i = 0; i < 25; i++) {
            Check.due("put() of 8 bytes, up to 200", book.put(0, 8), true);
        }
    }

    private static void newBesideAUsedOne() {
        HyphenBook used = KnownBook.make();
        Check.draft(used, "dee");
        HyphenBook book = new HyphenBook();
        for (int what = 0; what <= 3; what++) {
            Check.due("count(" + what + ")", book.count(what), 0);
        }
        Check.due("value(1)", book.value(1), HyphenBook.NONE);
        Check.due("word()", Check.word(book, "qqqqqq"), 0);
        Check.due("count(3) of the used one", used.count(3), 3);
        KnownBook.dueAsMadeButDraft(used, "a new one beside it");
    }
}
