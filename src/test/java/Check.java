import java.nio.charset.StandardCharsets;

/** What the project's tests share: drafting by text, and calls whose exceptions count as answers. */
final class Check {
    static final long NO_ARGUMENT = -1001;
    static final long NO_STATE = -1002;

    private static int wrong = 0;
    /** The sentence of the document whose test is running; empty outside of such tests. */
    private static String sentence = "";

    private Check() {
    }

    /** Runs the test of one sentence of the document: what is wrong in it is told under that sentence. */
    static void sentence(String where, String words, Runnable test) {
        sentence = where + ", '" + words + "': ";
        try {
            test.run();
        } catch (RuntimeException e) {
            tellWrong("the test ended with " + e);
        }
        sentence = "";
    }

    static void due(String call, long got, long want) {
        if (got != want) {
            tellWrong(call + " answered " + told(got) + ", due is " + told(want));
        }
    }

    private static void tellWrong(String what) {
        wrong++;
        System.out.println(sentence + what);
    }

    static void due(String call, boolean got, boolean want) {
        due(call, got ? 1 : 0, want ? 1 : 0);
    }

    /** Ends the test's program: with 1 if an answer was wrong. */
    static void end() {
        System.out.println(wrong == 0 ? "all answers are as due" : wrong + " wrong answers");
        if (wrong != 0) {
            System.exit(1);
        }
    }

    /** Drafts the text, a byte for each of its characters 0 .. 255. */
    static void draft(HyphenBook book, String text) {
        byte[] bytes = text.getBytes(StandardCharsets.ISO_8859_1);
        for (int from = 0; from < bytes.length; from += 8) {
            int n = Math.min(8, bytes.length - from);
            long v = 0;
            for (int i = 0; i < n; i++) {
                v = v << 8 | bytes[from + i] & 255;
            }
            due("put of '" + text + "' from " + from, book.put(v, n), true);
        }
    }

    static long pattern(HyphenBook book, String text) {
        draft(book, text);
        return patternOfDraft(book);
    }

    static long patternOfDraft(HyphenBook book) {
        try {
            return book.pattern();
        } catch (IllegalArgumentException e) {
            return NO_ARGUMENT;
        } catch (IllegalStateException e) {
            return NO_STATE;
        }
    }

    static long exception(HyphenBook book, String text) {
        draft(book, text);
        return exceptionOfDraft(book);
    }

    static long exceptionOfDraft(HyphenBook book) {
        try {
            return book.exception();
        } catch (IllegalArgumentException e) {
            return NO_ARGUMENT;
        } catch (IllegalStateException e) {
            return NO_STATE;
        }
    }

    static long word(HyphenBook book, String text) {
        draft(book, text);
        return wordOfDraft(book);
    }

    static long wordOfDraft(HyphenBook book) {
        try {
            return book.word();
        } catch (IllegalArgumentException e) {
            return NO_ARGUMENT;
        }
    }

    /** A book with these patterns, and cuts wherever values allow them. */
    static HyphenBook openBook(String... patterns) {
        HyphenBook book = new HyphenBook();
        book.least(1, 1);
        for (String text : patterns) {
            pattern(book, text);
        }
        due("patterns of the new book", book.count(0), patterns.length);
        return book;
    }

    /** The values behind letters 1, 2, .. of the last word as digits, up to the first NONE. */
    static String values(HyphenBook book) {
        StringBuilder digits = new StringBuilder();
        for (int k = 1; book.value(k) != HyphenBook.NONE; k++) {
            digits.append(book.value(k));
        }
        return digits.toString();
    }

    static void dueValues(HyphenBook book, String word, String want) {
        word(book, word);
        String got = values(book);
        due("values of '" + word + "' are " + got + " and not " + want + ": alike", got.equals(want), true);
    }

    private static String told(long answer) {
        if (answer == NO_ARGUMENT) {
            return "throws.IllegalArgumentException";
        }
        return answer == NO_STATE ? "throws.IllegalStateException" : Long.toString(answer);
    }
}
