/** The bounds of patterns, which the terms and promise 3 name, without those of a full book (FullBookTest). */
public final class PatternBoundsTest {
    private static final String TERMS = "Terms of promise 3";
    private static final String PATTERN = "Promise 3: pattern";

    public static void main(String[] args) {
        Check.sentence(TERMS, "at least one letter", PatternBoundsTest::noLetter);
        Check.sentence(TERMS, "at least one letter", PatternBoundsTest::oneLetter);
        Check.sentence(TERMS, "at most 63 letters", PatternBoundsTest::mostLetters);
        Check.sentence(TERMS, "at most 63 letters", PatternBoundsTest::tooManyLetters);
        String edges = "an edge only at its beginning or its end";
        Check.sentence(TERMS, edges, PatternBoundsTest::edgesAtTheEnds);
        Check.sentence(TERMS, edges, PatternBoundsTest::edgesElsewhere);
        Check.sentence(TERMS, "(a digit may stand ahead of the first one or behind the last one)",
            PatternBoundsTest::digitsOutsideTheEdges);
        Check.sentence(TERMS, "no two digits one behind the other", PatternBoundsTest::twoDigitsTogether);
        Check.sentence(TERMS, "no two digits one behind the other", PatternBoundsTest::digitsApart);
        String place = "Its NUMBER at place k (0 .. how many signs there are) is the digit that stands there";
        Check.sentence(TERMS, place, PatternBoundsTest::everyPlace);
        Check.sentence(TERMS, "ahead of sign k from 0 on", PatternBoundsTest::firstPlace);
        Check.sentence(TERMS, "(at the last place: behind them all)", PatternBoundsTest::lastPlace);
        Check.sentence(TERMS, "0 without one", PatternBoundsTest::noDigit);
        Check.sentence(TERMS, "but always 0 ahead of an edge that is the first sign",
            PatternBoundsTest::digitAheadOfTheFirstEdge);
        Check.sentence(TERMS, "and behind one that is the last", PatternBoundsTest::digitBehindTheLastEdge);
        String beginnings = "BEGINNINGS are the rows of signs (of one sign or more) with which patterns begin"
            + " (as they are whole, too), each counted once";
        Check.sentence(TERMS, beginnings, PatternBoundsTest::beginnings);
        Check.sentence(PATTERN, "how many there are then", PatternBoundsTest::howMany);
        Check.sentence(PATTERN, "IllegalArgumentException if it is none", PatternBoundsTest::emptyDraft);
        Check.sentence(PATTERN, "IllegalArgumentException if it is none", PatternBoundsTest::refusedAndThenTaken);
        String same = "IllegalStateException if there is one with the same signs";
        Check.sentence(PATTERN, same, PatternBoundsTest::sameSigns);
        Check.sentence(PATTERN, same, PatternBoundsTest::otherSigns);
        Check.sentence(PATTERN, same, PatternBoundsTest::noneComesAheadOfSameSigns);
        Check.end();
    }

    private static void dueRefused(String... texts) {
        for (String text : texts) {
            HyphenBook book = KnownBook.make();
            Check.due("pattern() of '" + text + "'", Check.pattern(book, text), Check.NO_ARGUMENT);
            KnownBook.dueUsedUpAndElseAsMade(book, "pattern() of '" + text + "'");
        }
    }

    private static void dueTaken(String... texts) {
        for (String text : texts) {
            HyphenBook book = KnownBook.make();
            Check.due("pattern() of '" + text + "'", Check.pattern(book, text), KnownBook.PATTERNS + 1);
            Check.due("count(0) behind '" + text + "'", book.count(0), KnownBook.PATTERNS + 1);
            Check.due("count(3) behind '" + text + "'", book.count(3), 0);
        }
    }

    private static void noLetter() {
        dueRefused("", ".", "..", "...", "1", "1.", ".1", "1.2", ".1.", "1.2.", ".1.2", "1.2.3");
    }

    private static void oneLetter() {
        dueTaken("a", "z", "\u0080", "\u00ff", ".z", "z.", ".z.", "1z", "z1", "1z1", "1.2z3.4");
    }

    private static void mostLetters() {
        String most = "z".repeat(63);
        dueTaken("z".repeat(62), most, "." + most, most + ".", "." + most + ".");
        dueTaken("1z".repeat(63) + "1", "1." + "1z".repeat(63) + "1.1");
        HyphenBook book = Check.openBook("." + "1z".repeat(63) + ".");
        Check.due("count(2)", book.count(2), 65);
        Check.due("word() of 63 letters", Check.word(book, most), Long.MAX_VALUE - 1);
    }

    private static void tooManyLetters() {
        String most = "z".repeat(63);
        dueRefused(most + "z", "." + most + "z", most + "z.", "." + most + "z.", "1" + most + "z1");
        dueRefused(most + "zz", most + "zzz", most + "zzzz", "1z".repeat(64), "z".repeat(127), "z".repeat(200));
    }

    private static void edgesAtTheEnds() {
        dueTaken(".k", "k.", ".k.", ".kk", "kk.", ".kk.");
    }

    private static void edgesElsewhere() {
        dueRefused("k.k", "..k", "k..", ".k..", "..k.", ".k.k", "k.k.", ".k.k.", "k.kk", "kk.k", "k1.k", "k.1k");
        dueRefused(".1.k", "k.1.", "1..k", "k..1", "k." + "k".repeat(62), "k".repeat(62) + ".k");
    }

    private static void digitsOutsideTheEdges() {
        dueTaken("1.k", "k.1", "1.k.", ".k.1", "1.k.1", "1.2k", "k1.2", "1.2k3.4", "0.k.0");
        HyphenBook book = Check.openBook("1.k2l.3");
        Check.due("count(2)", book.count(2), 4);
        Check.dueValues(book, "kl", "2");
    }

    private static void twoDigitsTogether() {
        dueRefused("11k", "k11", "k12k", "kk11", "11.k", "k.11", ".11k", "k11.", "00k", "k00", "k00k", "k01k", "k10k");
        dueRefused("111k", "k111", "1k22k", "k2k33", "1.22k", "k22.1", "1".repeat(200), "k" + "1".repeat(199));
    }

    private static void digitsApart() {
        dueTaken("1k1", "1k1k1", "9k9k9k9", "0k0k0", "1.1k1.1", "1.1k", "k1.1");
    }

    private static void everyPlace() {
        Check.dueValues(Check.openBook("1k2l3m4"), "xklmx", "1234");
        Check.dueValues(Check.openBook(".1k2l3m4"), "klmx", "234");
        Check.dueValues(Check.openBook("1k2l3m4."), "xklm", "123");
        for (int place = 0; place <= 63; place++) {
            String text = "k".repeat(place) + "9" + "k".repeat(63 - place);
            HyphenBook book = Check.openBook(text);
            Check.word(book, "k".repeat(63));
            for (int k = 1; k <= 62; k++) {
                Check.due("value(" + k + ") with the digit at " + place, book.value(k), k == place ? 9 : 0);
            }
        }
    }

    private static void firstPlace() {
        Check.dueValues(Check.openBook("9k"), "xkx", "90");
        Check.dueValues(Check.openBook("9kl"), "xklx", "900");
        Check.dueValues(Check.openBook(".k9l"), "klx", "90");
    }

    private static void lastPlace() {
        Check.dueValues(Check.openBook("k9"), "xkx", "09");
        Check.dueValues(Check.openBook("kl9"), "xklx", "009");
        Check.dueValues(Check.openBook("k9l."), "xkl", "09");
    }

    private static void noDigit() {
        Check.dueValues(Check.openBook("k"), "xkkx", "000");
        Check.dueValues(Check.openBook("klm"), "xklmx", "0000");
        Check.dueValues(Check.openBook("k0l"), "xklx", "000");
        Check.dueValues(Check.openBook("k1lm2"), "klmx", "102");
    }

    /** No place where a value is asked for lies there; a digit that counted elsewhere would be seen. */
    private static void digitAheadOfTheFirstEdge() {
        Check.dueValues(Check.openBook("9.k"), "kkk", "00");
        Check.dueValues(Check.openBook("9.kl"), "klkl", "000");
        Check.dueValues(Check.openBook("9.k1l"), "klkl", "100");
        Check.dueValues(Check.openBook("9.8k1l"), "klkl", "100");
        Check.dueValues(Check.openBook("9.k.", "1k"), "kk", "1");
        Check.dueValues(Check.openBook("9." + "k".repeat(63)), "k".repeat(63), "0".repeat(62));
    }

    private static void digitBehindTheLastEdge() {
        Check.dueValues(Check.openBook("k.9"), "kkk", "00");
        Check.dueValues(Check.openBook("kl.9"), "klkl", "000");
        Check.dueValues(Check.openBook("k1l.9"), "klkl", "001");
        Check.dueValues(Check.openBook("k1l8.9"), "klkl", "001");
        Check.dueValues(Check.openBook(".k.9", "k1"), "kk", "1");
        Check.dueValues(Check.openBook("k".repeat(63) + ".9"), "k".repeat(63), "0".repeat(62));
    }

    private static void beginnings() {
        HyphenBook book = Check.openBook();
        dueBeginnings(book, "k", 1);
        dueBeginnings(book, "klm", 3);
        dueBeginnings(book, "kl", 3);
        dueBeginnings(book, "lm", 5);
        dueBeginnings(book, "k1lmm", 6);
        dueBeginnings(book, ".k", 8);
        dueBeginnings(book, "k.", 9);
        dueBeginnings(book, ".k.", 10);
        dueBeginnings(book, "1.1z1.1", 12);
        dueBeginnings(book, "." + "y".repeat(63) + ".", 12 + 64);
        Check.exception(book, "x-x");
        Check.word(book, "www");
        Check.due("count(2) behind an exception and a word", book.count(2), 12 + 64);
    }

    private static void dueBeginnings(HyphenBook book, String text, int want) {
        int patterns = book.count(0);
        Check.due("pattern() of " + text, Check.pattern(book, text), patterns + 1);
        Check.due("count(2) behind " + text, book.count(2), want);
    }

    private static void howMany() {
        HyphenBook book = new HyphenBook();
        Check.due("the first", Check.pattern(book, "k"), 1);
        Check.due("none", Check.pattern(book, "k-"), Check.NO_ARGUMENT);
        Check.due("the second", Check.pattern(book, "l"), 2);
        Check.due("the same signs", Check.pattern(book, "1l"), Check.NO_STATE);
        Check.exception(book, "k-l");
        Check.due("the third", Check.pattern(book, "kl"), 3);
        Check.due("count(0)", book.count(0), 3);
    }

    private static void emptyDraft() {
        HyphenBook book = KnownBook.make();
        Check.due("pattern() of nothing", Check.patternOfDraft(book), Check.NO_ARGUMENT);
        KnownBook.dueUsedUpAndElseAsMade(book, "pattern() of nothing");
    }

    /** What a refused draft had ahead of its fault is not kept anywhere. */
    private static void refusedAndThenTaken() {
        HyphenBook book = Check.openBook();
        for (String none : new String[] {"k9l-", "k9l8m99", "9.k.l", "k9l8" + "k".repeat(62)}) {
            Check.due("pattern() of " + none, Check.pattern(book, none), Check.NO_ARGUMENT);
            Check.due("count(2)", book.count(2), 0);
        }
        Check.due("pattern() of k1lm", Check.pattern(book, "k1lm"), 1);
        Check.due("count(2)", book.count(2), 3);
        Check.dueValues(book, "klmx", "100");
    }

    private static void sameSigns() {
        String[] texts = {"q1q", "qq", "q9q", "9q9q9", ".ab", "9.ab", "9.9a9b9", "bc.", "bc.9", "9b9c9.9"};
        for (String text : texts) {
            HyphenBook book = KnownBook.make();
            Check.due("pattern() of " + text, Check.pattern(book, text), Check.NO_STATE);
            KnownBook.dueUsedUpAndElseAsMade(book, "pattern() of " + text);
        }
    }

    private static void otherSigns() {
        dueTaken("q", "qqq", ".qq", "qq.", ".qq.", "ab", ".a", ".abc", ".ab.", "bc", "b", ".bc.", "c.", "cb", ".ba");
        HyphenBook book = KnownBook.make();
        Check.due("pattern() of a beginning", Check.pattern(book, "q"), KnownBook.PATTERNS + 1);
        Check.due("pattern() of it again", Check.pattern(book, "1q"), Check.NO_STATE);
        Check.due("count(0)", book.count(0), KnownBook.PATTERNS + 1);
        Check.due("count(2)", book.count(2), KnownBook.BEGINNINGS);
    }

    private static void noneComesAheadOfSameSigns() {
        dueRefused("q11q", "qq-", ".ab11", "11.ab", "bc.11");
    }
}
