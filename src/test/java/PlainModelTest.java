import java.util.HashMap;
import java.util.HashSet;
import java.util.Map;
import java.util.Set;
import java.util.regex.Pattern;

/** Long runs of mixed calls, each answer held against a model that follows the document's terms word for word. */
public final class PlainModelTest {
    private static final int RUNS = 3000;
    /** As many as an object is used for, without the last look at every value. */
    private static final int CALLS = 512 - 66;
    private static final String[] ALPHABETS = {"ab", "ab.1", "ab.123", "ab-", "abc.-0123456789", "a\u0080\u00ff.1-",
        "ab\u0000/:`{\u007fA.-1", "a1", "abcdefghij-13579"};

    private long seed;

    public static void main(String[] args) {
        for (int run = 1; run <= RUNS; run++) {
            new PlainModelTest(run).run();
        }
        Check.end();
    }

    private PlainModelTest(long seed) {
        this.seed = seed;
    }

    private int below(int bound) {
        seed = seed * 6364136223846793005L + 1442695040888963407L;
        return (int) ((seed >>> 33) % bound);
    }

    private void run() {
        String name = "run " + seed + " ";
        HyphenBook book = new HyphenBook();
        Model model = new Model();
        String alphabet = ALPHABETS[below(ALPHABETS.length)];
        int longest = below(4) == 0 ? 40 : 2;
        for (int call = 0; call < CALLS; call++) {
            int kind = below(20);
            if (kind < 8) {
                for (int i = below(longest); i >= 0 && call < CALLS; i--, call++) {
                    putSome(name + call, book, model, alphabet);
                }
            } else if (kind < 12) {
                Check.due(name + call + " pattern()", Check.patternOfDraft(book), model.pattern());
            } else if (kind < 14) {
                Check.due(name + call + " exception()", Check.exceptionOfDraft(book), model.exception());
            } else if (kind < 16) {
                Check.due(name + call + " word()", Check.wordOfDraft(book), model.word());
            } else if (kind < 17) {
                int left = below(5);
                int right = below(5);
                Check.due(name + call + " least()", book.least(left, right), model.least(left, right));
            } else if (kind < 19) {
                int k = below(70) - 2 >> below(5);
                Check.due(name + call + " value(" + k + ")", book.value(k), model.value(k));
            } else {
                int what = below(6) - 1;
                Check.due(name + call + " count(" + what + ")", book.count(what), model.count(what));
            }
        }
        for (int k = -1; k <= 64; k++) {
            Check.due(name + "value(" + k + ")", book.value(k), model.value(k));
        }
    }

    private void putSome(String name, HyphenBook book, Model model, String alphabet) {
        int n = below(12) == 0 ? below(12) - 1 : 1 + below(8);
        long v = 0;
        for (int i = 0; i < 8; i++) {
            v = v << 8 | alphabet.charAt(below(alphabet.length()));
        }
        Check.due(name + " put(" + v + ", " + n + ")", book.put(v, n), model.put(v, n));
    }

    private static final class Model {
        private static final String LETTER = "[a-z\\x80-\\xff]";
        private static final Pattern PATTERN = Pattern.compile(
            "([0-9]?\\.)?([0-9]?" + LETTER + ")+[0-9]?(\\.[0-9]?)?");
        private static final Pattern EXCEPTION = Pattern.compile(LETTER + "+(-" + LETTER + "+)*");
        private static final Pattern WORD = Pattern.compile(LETTER + "{1,63}");

        private final Map<String, int[]> patterns = new HashMap<>();
        private final Map<String, Set<Integer>> exceptions = new HashMap<>();
        private String draft = "";
        private int left = 2;
        private int right = 3;
        private int[] values = null;

        boolean put(long v, int n) {
            if (n < 1 || n > 8 || draft.length() + n > 200) {
                return false;
            }
            for (int i = n - 1; i >= 0; i--) {
                draft += (char) (v >> 8 * i & 255);
            }
            return true;
        }

        long pattern() {
            String text = takeDraft();
            String signs = text.replaceAll("[0-9]", "");
            if (!PATTERN.matcher(text).matches() || signs.replace(".", "").length() > 63) {
                return Check.NO_ARGUMENT;
            }
            if (patterns.containsKey(signs)) {
                return Check.NO_STATE;
            }
            int[] numbers = new int[signs.length() + 1];
            int place = 0;
            for (char c : text.toCharArray()) {
                if (c >= '0' && c <= '9') {
                    numbers[place] = c - '0';
                } else {
                    place++;
                }
            }
            patterns.put(signs, numbers);
            return patterns.size();
        }

        long exception() {
            String text = takeDraft();
            String word = text.replace("-", "");
            if (!EXCEPTION.matcher(text).matches() || word.length() > 63) {
                return Check.NO_ARGUMENT;
            }
            Set<Integer> places = new HashSet<>();
            int letters = 0;
            for (char c : text.toCharArray()) {
                if (c == '-') {
                    places.add(letters);
                } else {
                    letters++;
                }
            }
            exceptions.put(word, places);
            return exceptions.size();
        }

        long word() {
            String word = takeDraft();
            if (!WORD.matcher(word).matches()) {
                return Check.NO_ARGUMENT;
            }
            values = new int[word.length()];
            long cuts = 0;
            for (int k = 1; k < word.length(); k++) {
                values[k] = valueBehind(k, "." + word + ".");
                Set<Integer> told = exceptions.get(word);
                boolean may = told != null ? told.contains(k) : values[k] % 2 == 1;
                if (may && k >= left && word.length() - k >= right) {
                    cuts += 1L << k;
                }
            }
            return cuts;
        }

        private int valueBehind(int k, String row) {
            int greatest = 0;
            for (Map.Entry<String, int[]> entry : patterns.entrySet()) {
                int[] numbers = entry.getValue();
                for (int place = 0; place < numbers.length; place++) {
                    int start = k + 1 - place;
                    if (start >= 0 && row.startsWith(entry.getKey(), start)) {
                        greatest = Math.max(greatest, numbers[place]);
                    }
                }
            }
            return greatest;
        }

        boolean least(int newLeft, int newRight) {
            if (Math.min(newLeft, newRight) < 1 || Math.max(newLeft, newRight) > 63) {
                return false;
            }
            left = newLeft;
            right = newRight;
            return true;
        }

        int value(int k) {
            return values == null || k < 1 || k >= values.length ? HyphenBook.NONE : values[k];
        }

        int count(int what) {
            Set<String> beginnings = new HashSet<>();
            for (String signs : patterns.keySet()) {
                for (int end = 1; end <= signs.length(); end++) {
                    beginnings.add(signs.substring(0, end));
                }
            }
            int[] counts = {patterns.size(), exceptions.size(), beginnings.size(), draft.length()};
            return what < 0 || what > 3 ? HyphenBook.NONE : counts[what];
        }

        private String takeDraft() {
            String taken = draft;
            draft = "";
            return taken;
        }
    }
}
