/** Promise 3: pattern, without the limits (FullBookTest has these). */
public final class PatternTest {
    private static final String LETTERS_63 = "a".repeat(63);

    public static void main(String[] args) {
        patterns();
        noPatterns();
        sameSigns();
        numbers();
        everyByte();
        Check.end();
    }

    private static void patterns() {
        HyphenBook book = new HyphenBook();
        String digits = "9a".repeat(63);
        String[] texts = {"a", "1b", "c1", "2d3", ".e", "f.", ".g.", "3.h", "i.4", "5.6j7.8", ".1k2l3.", "m0n",
            "1.2\u0080.3", LETTERS_63, "." + LETTERS_63, LETTERS_63 + ".", "1." + digits + "9.1"};
        for (int i = 0; i < texts.length; i++) {
            Check.due("pattern() of " + texts[i], Check.pattern(book, texts[i]), i + 1);
            Check.due("count(0)", book.count(0), i + 1);
            Check.due("count(3)", book.count(3), 0);
        }
    }

    private static void noPatterns() {
        HyphenBook book = Check.openBook("ab");
        String[] texts = {"", ".", "..", "1", "1.", ".1", "1.2.3", "11a", "a11", "a11b", "1.22a", "12.a", "a.12",
            "a12.", "..a", "a..", ".1.a", "a.1.", "a.b", ".a.b", ".a.b.", "a1.2b", "a-b", "-", "A", "a b", "aB",
            "a\u0000", "a/", "a:", "a`", "a{", "a\u007f", "z".repeat(64), "." + "z".repeat(64), ".z.z",
            "z".repeat(64) + ".", "z".repeat(65), "z".repeat(66), "z1".repeat(64), "z1".repeat(100), "z".repeat(200)};
        for (String text : texts) {
            Check.due("pattern() of '" + text + "'", Check.pattern(book, text), Check.NO_ARGUMENT);
            Check.due("count(0)", book.count(0), 1);
            Check.due("count(2)", book.count(2), 2);
            Check.due("count(3)", book.count(3), 0);
        }
    }

    private static void sameSigns() {
        HyphenBook book = Check.openBook("a1b");
        String[] same = {"a1b", "ab", "2ab", "a3b", "ab4", "1a2b3"};
        for (String text : same) {
            Check.due("pattern() of " + text, Check.pattern(book, text), Check.NO_STATE);
            Check.due("count(0)", book.count(0), 1);
            Check.due("count(3)", book.count(3), 0);
        }
        Check.dueValues(book, "ab", "1");
        Check.due("pattern() of .ab", Check.pattern(book, ".ab"), 2);
        Check.due("pattern() of 9.1a2b", Check.pattern(book, "9.1a2b"), Check.NO_STATE);
        Check.due("pattern() of ab.", Check.pattern(book, "ab."), 3);
        Check.due("pattern() of .ab.", Check.pattern(book, ".ab."), 4);
        Check.due("pattern() of the beginning a", Check.pattern(book, "a"), 5);
        Check.due("pattern() of a again", Check.pattern(book, "1a"), Check.NO_STATE);
        Check.due("pattern() of b", Check.pattern(book, "b"), 6);
        Check.due("pattern() of abc", Check.pattern(book, "abc"), 7);
        Check.dueValues(book, "ab", "1");
    }

    private static void numbers() {
        Check.dueValues(Check.openBook("1a2b3"), "xabx", "123");
        Check.dueValues(Check.openBook("a"), "aaa", "00");
        Check.dueValues(Check.openBook("a0b"), "abab", "000");
        Check.dueValues(Check.openBook("9a"), "baab", "990");
        Check.dueValues(Check.openBook("a9"), "baab", "099");
        Check.dueValues(Check.openBook("8.7a6b"), "abab", "600");
        Check.dueValues(Check.openBook("6a7b8.9"), "abab", "067");
        Check.dueValues(Check.openBook("1.2a3b4.5"), "ab", "3");
        Check.dueValues(Check.openBook("1.2a3b4.5"), "abab", "000");
    }

    private static void everyByte() {
        for (int b = 0; b <= 255; b++) {
            HyphenBook book = new HyphenBook();
            boolean letter = b >= 97 && b <= 122 || b >= 128;
            boolean digit = b >= 48 && b <= 57;
            book.put(b, 1);
            Check.due("pattern() of byte " + b, Check.patternOfDraft(book), letter ? 1 : Check.NO_ARGUMENT);
            book.put('x' << 8 | b, 2);
            boolean behind = letter || digit || b == 46;
            long count = book.count(0);
            boolean fits = Check.patternOfDraft(book) == count + 1;
            Check.due("pattern() of x and byte " + b, fits, behind);
        }
    }
}
