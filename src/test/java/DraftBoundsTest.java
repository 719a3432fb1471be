/** The bounds of the draft, which the terms and promise 2 name. */
public final class DraftBoundsTest {
    private static final String PUT = "Promise 2: put";
    private static final long ABCDEFGH = 0x6162636465666768L;

    public static void main(String[] args) {
        Check.sentence("Terms of promise 2", "The DRAFT has at most 200 bytes", DraftBoundsTest::twoHundredBytes);
        String usedUp = "it is used up by pattern(), exception() and word(), whatever comes of them";
        Check.sentence("Terms of promise 3", usedUp, DraftBoundsTest::usedUpByPattern);
        Check.sentence("Terms of promise 3", usedUp, DraftBoundsTest::usedUpByPatternThatThrows);
        Check.sentence("Terms of promise 4", usedUp, DraftBoundsTest::usedUpByException);
        Check.sentence("Terms of promise 4", usedUp, DraftBoundsTest::usedUpByExceptionThatThrows);
        Check.sentence("Terms of promise 5", usedUp, DraftBoundsTest::usedUpByWord);
        Check.sentence("Terms of promise 5", usedUp, DraftBoundsTest::usedUpByWordThatThrows);
        Check.sentence("Terms of promises 6 to 8", usedUp, DraftBoundsTest::noOtherCallUsesItUp);
        Check.sentence(PUT, "Appends the n lowest bytes of v", DraftBoundsTest::lowestBytes);
        Check.sentence(PUT, "the highest of these first", DraftBoundsTest::highestFirst);
        Check.sentence(PUT, "to the draft: true", DraftBoundsTest::behindWhatIsDrafted);
        String wrongN = "false, changing nothing, if n is not 1 .. 8";
        Check.sentence(PUT, wrongN, DraftBoundsTest::tooSmall);
        Check.sentence(PUT, wrongN, DraftBoundsTest::tooLarge);
        Check.sentence(PUT, wrongN, DraftBoundsTest::wrongForAFullDraftToo);
        String tooMany = "or it would have more than 200";
        Check.sentence(PUT, tooMany, DraftBoundsTest::justTwoHundred);
        Check.sentence(PUT, tooMany, DraftBoundsTest::oneTooMany);
        Check.sentence(PUT, tooMany, DraftBoundsTest::refusedAndThenFewer);
        Check.end();
    }

    /** Drafts so many bytes behind the ones that are there. */
    private static void draftBytes(HyphenBook book, int bytes) {
        Check.draft(book, "a".repeat(bytes));
    }

    private static void twoHundredBytes() {
        HyphenBook book = KnownBook.make();
        draftBytes(book, 200);
        Check.due("count(3)", book.count(3), 200);
        for (int n = 1; n <= 8; n++) {
            Check.due("put(97, " + n + ")", book.put(97, n), false);
            Check.due("count(3)", book.count(3), 200);
        }
        KnownBook.dueAsMadeButDraft(book, "refused put()");
        Check.due("word()", Check.wordOfDraft(book), Check.NO_ARGUMENT);
        KnownBook.dueUsedUpAndElseAsMade(book, "word() of 200 bytes");
    }

    private static void usedUpByPattern() {
        HyphenBook book = KnownBook.make();
        Check.due("pattern()", Check.pattern(book, "k"), KnownBook.PATTERNS + 1);
        Check.due("count(3)", book.count(3), 0);
        Check.due("pattern() of the next draft alone", Check.pattern(book, "l"), KnownBook.PATTERNS + 2);
        Check.due("count(2)", book.count(2), KnownBook.BEGINNINGS + 2);
    }

    private static void usedUpByPatternThatThrows() {
        for (String none : new String[] {"k-", "k11", ".", "1", "a".repeat(64), "a".repeat(200)}) {
            HyphenBook book = KnownBook.make();
            Check.due("pattern() of '" + none + "'", Check.pattern(book, none), Check.NO_ARGUMENT);
            KnownBook.dueUsedUpAndElseAsMade(book, "pattern() of '" + none + "'");
        }
        HyphenBook book = KnownBook.make();
        Check.due("pattern() with the same signs", Check.pattern(book, "q2q"), Check.NO_STATE);
        KnownBook.dueUsedUpAndElseAsMade(book, "pattern() with the same signs");
    }

    private static void usedUpByException() {
        HyphenBook book = KnownBook.make();
        Check.due("exception()", Check.exception(book, "kk-k"), KnownBook.EXCEPTIONS + 1);
        Check.due("count(3)", book.count(3), 0);
        Check.due("exception() of the next draft alone", Check.exception(book, "ll-l"), KnownBook.EXCEPTIONS + 2);
        Check.due("word() of lll", Check.word(book, "lll"), 0b100);
        Check.due("exception() of a word that has one", Check.exception(book, "lll"), KnownBook.EXCEPTIONS + 2);
        Check.due("count(3)", book.count(3), 0);
    }

    private static void usedUpByExceptionThatThrows() {
        for (String none : new String[] {"-k", "k-", "k1", "-", "a".repeat(64), "a".repeat(200)}) {
            HyphenBook book = KnownBook.make();
            Check.due("exception() of '" + none + "'", Check.exception(book, none), Check.NO_ARGUMENT);
            KnownBook.dueUsedUpAndElseAsMade(book, "exception() of '" + none + "'");
        }
    }

    private static void usedUpByWord() {
        HyphenBook book = KnownBook.make();
        Check.due("word()", Check.word(book, "dee"), 0);
        Check.due("count(3)", book.count(3), 0);
        Check.due("word() of the next draft alone", Check.word(book, "f"), 0);
        Check.due("value(1) of one letter", book.value(1), HyphenBook.NONE);
    }

    private static void usedUpByWordThatThrows() {
        for (String none : new String[] {"-k", "k.", "k1", "-", "a".repeat(64), "a".repeat(200)}) {
            HyphenBook book = KnownBook.make();
            Check.due("word() of '" + none + "'", Check.word(book, none), Check.NO_ARGUMENT);
            KnownBook.dueUsedUpAndElseAsMade(book, "word() of '" + none + "'");
        }
    }

    private static void noOtherCallUsesItUp() {
        HyphenBook book = KnownBook.make();
        Check.draft(book, "deef");
        for (int i = -1; i <= 4; i++) {
            book.count(i);
            book.value(i);
        }
        book.least(0, 1);
        book.least(2, 1);
        Check.due("count(3)", book.count(3), 4);
        Check.due("word() of deef", Check.wordOfDraft(book), 0b1000);
    }

    private static void lowestBytes() {
        for (int n = 1; n <= 8; n++) {
            HyphenBook book = new HyphenBook();
            Check.due("put(.., " + n + ")", book.put(ABCDEFGH, n), true);
            Check.due("count(3)", book.count(3), n);
        }
        HyphenBook book = new HyphenBook();
        Check.due("put() with wrong bytes ahead", book.put(0x2D2D2D2D2D2D2D61L, 1), true);
        Check.due("word() of a", Check.wordOfDraft(book), 0);
        Check.due("put() with the sign's bit set ahead", book.put(0x8000000000000061L, 1), true);
        Check.due("word() of a", Check.wordOfDraft(book), 0);
        Check.due("put() with a wrong highest byte", book.put(0x2D61616161616161L, 8), true);
        Check.due("word()", Check.wordOfDraft(book), Check.NO_ARGUMENT);
        Check.due("put() without it", book.put(0x2D61616161616161L, 7), true);
        Check.due("word()", Check.wordOfDraft(book), 0);
    }

    /** The word with the hyphens everywhere is found only if every letter stands where it is due. */
    private static void highestFirst() {
        String letters = "abcdefgh";
        for (int n = 1; n <= 8; n++) {
            HyphenBook book = new HyphenBook();
            book.least(1, 1);
            String word = letters.substring(8 - n);
            Check.exception(book, String.join("-", word.split("")));
            book.put(ABCDEFGH, n);
            Check.due("word() of " + word, Check.wordOfDraft(book), (1L << n) - 2);
        }
        HyphenBook book = new HyphenBook();
        book.least(1, 1);
        Check.exception(book, "\u00ff-\u0080\u00fe\u0081\u00fd\u0082\u00fc-\u0083");
        book.put(0xFF80FE81FD82FC83L, 8);
        Check.due("word() of bytes above 127", Check.wordOfDraft(book), 0b10000010);
    }

    private static void behindWhatIsDrafted() {
        HyphenBook book = new HyphenBook();
        book.least(1, 1);
        Check.exception(book, "a-bcdefgh-ij");
        Check.due("put() of a", book.put('a', 1), true);
        Check.due("put() of bc", book.put(0x6263, 2), true);
        Check.due("put() of defghi", book.put(0x646566676869L, 6), true);
        Check.due("put() of j", book.put('j', 1), true);
        Check.due("count(3)", book.count(3), 10);
        Check.due("word()", Check.wordOfDraft(book), 0b100000010);
    }

    private static void dueRefusedChangingNothing(int n) {
        HyphenBook book = KnownBook.make();
        Check.draft(book, "dee");
        Check.due("put(102, " + n + ")", book.put('f', n), false);
        Check.due("count(3) behind put(102, " + n + ")", book.count(3), 3);
        KnownBook.dueAsMadeButDraft(book, "put(102, " + n + ")");
        Check.due("put(102, 1)", book.put('f', 1), true);
        Check.due("word() of deef", Check.wordOfDraft(book), 0b1000);
        KnownBook.dueSameAnswers(book, "put(102, " + n + ")");
    }

    private static void tooSmall() {
        for (int n : new int[] {0, -1, -7, -8, -255, -256, Integer.MIN_VALUE + 1, Integer.MIN_VALUE}) {
            dueRefusedChangingNothing(n);
        }
    }

    private static void tooLarge() {
        for (int n : new int[] {9, 10, 16, 64, 197, 257, 65537, Integer.MAX_VALUE - 3, Integer.MAX_VALUE}) {
            dueRefusedChangingNothing(n);
        }
    }

    private static void wrongForAFullDraftToo() {
        HyphenBook book = KnownBook.make();
        draftBytes(book, 200);
        for (int n : new int[] {0, -1, -200, 9, Integer.MIN_VALUE, Integer.MAX_VALUE}) {
            Check.due("put(97, " + n + ")", book.put(97, n), false);
            Check.due("count(3)", book.count(3), 200);
        }
    }

    private static void justTwoHundred() {
        for (int n = 1; n <= 8; n++) {
            HyphenBook book = KnownBook.make();
            draftBytes(book, 200 - n);
            Check.due("put(97, " + n + ") up to 200", book.put(97, n), true);
            Check.due("count(3)", book.count(3), 200);
            KnownBook.dueAsMadeButDraft(book, "put() up to 200");
        }
    }

    private static void oneTooMany() {
        for (int n = 1; n <= 8; n++) {
            HyphenBook book = KnownBook.make();
            draftBytes(book, 201 - n);
            Check.due("put(97, " + n + ") up to 201", book.put(97, n), false);
            Check.due("count(3)", book.count(3), 201 - n);
            KnownBook.dueAsMadeButDraft(book, "put() up to 201");
            Check.due("pattern()", Check.patternOfDraft(book), Check.NO_ARGUMENT);
            KnownBook.dueUsedUpAndElseAsMade(book, "a refused put() and pattern()");
        }
    }

    private static void refusedAndThenFewer() {
        HyphenBook book = KnownBook.make();
        draftBytes(book, 197);
        Check.due("put(97, 4) up to 201", book.put(97, 4), false);
        Check.due("put(97, 2) up to 199", book.put(97, 2), true);
        Check.due("put(97, 2) up to 201", book.put(97, 2), false);
        Check.due("put(97, 1) up to 200", book.put(97, 1), true);
        Check.due("put(97, 1) up to 201", book.put(97, 1), false);
        Check.due("count(3)", book.count(3), 200);
    }
}
