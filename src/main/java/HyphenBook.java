import java.util.Arrays;

/**
 * A book that says where words may be cut: patterns of letters with numbers between them, the
 * greatest of which counts wherever several fit, words that are told as they are, and the least
 * ends.
 */
public final class HyphenBook {
    public static final int NONE = -1;

    private static final int EDGE = 46;
    private static final int HYPHEN = 45;
    private static final int FIRST_DIGIT = 48;
    private static final int LAST_DIGIT = 57;

    private static final int MOST_BYTES_AT_ONCE = 8;
    private static final int MOST_DRAFTED = 200;
    private static final int MOST_LETTERS = 63;
    private static final int MOST_SIGNS = MOST_LETTERS + 2;
    private static final int MOST_PATTERNS = 8192;
    private static final int MOST_BEGINNINGS = 32768;
    private static final int MOST_EXCEPTIONS = 2048;

    private final int[] draft = new int[MOST_DRAFTED];
    private int drafted = 0;
    private int left = 2;
    private int right = 3;
    private final SignTree patterns = new SignTree();
    private final SignTree exceptions = new SignTree();
    /** What pattern() and exception() read out of the draft. */
    private final SignRow read = new SignRow();
    /** The row of the word that was asked for last, its numbers the values; empty before that. */
    private final SignRow asked = new SignRow();

    public HyphenBook() {
    }

    public boolean put(long v, int n) {
        if (n < 1 || n > MOST_BYTES_AT_ONCE || drafted + n > draft.length) {
            return false;
        }
        for (int i = n - 1; i >= 0; i--) {
            draft[drafted] = (int) (v >>> (8 * i)) & 255;
            drafted++;
        }
        return true;
    }

    public int pattern() throws IllegalArgumentException, IllegalStateException {
        boolean isPattern = readPattern();
        drafted = 0;
        if (!isPattern) {
            throw new IllegalArgumentException("the draft is no pattern");
        }
        if (patterns.numbersOf(read) != null) {
            throw new IllegalStateException("there is a pattern with the same signs");
        }
        if (patterns.entries() >= MOST_PATTERNS) {
            throw new IllegalStateException("there would be too many patterns");
        }
        if (patterns.beginningsWith(read) > MOST_BEGINNINGS) {
            throw new IllegalStateException("there would be too many beginnings");
        }
        patterns.enter(read);
        return patterns.entries();
    }

    public int exception() throws IllegalArgumentException, IllegalStateException {
        boolean isException = readException();
        drafted = 0;
        if (!isException) {
            throw new IllegalArgumentException("the draft is no exception");
        }
        if (exceptions.numbersOf(read) == null && exceptions.entries() >= MOST_EXCEPTIONS) {
            throw new IllegalStateException("there would be too many words with exceptions");
        }
        exceptions.enter(read);
        return exceptions.entries();
    }

    public long word() throws IllegalArgumentException {
        boolean isWord = draftIsWord();
        if (isWord) {
            copyDraftToAsked();
        }
        drafted = 0;
        if (!isWord) {
            throw new IllegalArgumentException("the draft is no word");
        }
        patterns.raiseNumbers(asked);
        return cutsOfAsked();
    }

    public boolean least(int left, int right) {
        if (left < 1 || left > MOST_LETTERS || right < 1 || right > MOST_LETTERS) {
            return false;
        }
        this.left = left;
        this.right = right;
        return true;
    }

    public int value(int k) {
        if (k < 1 || k >= lettersOfAsked()) {
            return NONE;
        }
        return asked.numberAt(placeBehind(k));
    }

    public int count(int what) {
        switch (what) {
            case 0:
                return patterns.entries();
            case 1:
                return exceptions.entries();
            case 2:
                return patterns.beginnings();
            case 3:
                return drafted;
            default:
                return NONE;
        }
    }

    private static boolean isLetter(int sign) {
        return sign >= 97 && sign <= 122 || sign >= 128 && sign <= 255;
    }

    private static boolean isDigit(int sign) {
        return sign >= FIRST_DIGIT && sign <= LAST_DIGIT;
    }

    /** The row of a word begins with an edge, so that letter k is its sign k. */
    private static int placeBehind(int k) {
        return k + 1;
    }

    /** The one way to read an array here: a place outside of it holds 0, which is no sign. */
    private static int elementAt(int[] elements, int i) {
        return elements != null && i >= 0 && i < elements.length ? elements[i] : 0;
    }

    private boolean readPattern() {
        read.clear();
        boolean behindDigit = false;
        for (int i = 0; i < drafted; i++) {
            int b = elementAt(draft, i);
            if (isDigit(b)) {
                if (behindDigit) {
                    return false;
                }
                read.setNumber(read.size(), b - FIRST_DIGIT);
                behindDigit = true;
            } else {
                if (!isLetter(b) && b != EDGE || !read.append(b)) {
                    return false;
                }
                behindDigit = false;
            }
        }
        dropNumbersOutsideEdges();
        return signsReadMakeAPattern();
    }

    private void dropNumbersOutsideEdges() {
        if (read.signAt(0) == EDGE) {
            read.setNumber(0, 0);
        }
        if (read.signAt(read.size() - 1) == EDGE) {
            read.setNumber(read.size(), 0);
        }
    }

    private boolean signsReadMakeAPattern() {
        int letters = 0;
        for (int i = 0; i < read.size(); i++) {
            if (read.signAt(i) != EDGE) {
                letters++;
            } else if (i != 0 && i != read.size() - 1) {
                return false;
            }
        }
        return letters >= 1 && letters <= MOST_LETTERS;
    }

    /**
     * Reads an exception as the row of its word with a 1 wherever a hyphen stands: an odd number,
     * so that the places of a word with an exception are asked for as values are.
     */
    private boolean readException() {
        read.clear();
        read.append(EDGE);
        boolean behindLetter = false;
        for (int i = 0; i < drafted; i++) {
            int b = elementAt(draft, i);
            if (b == HYPHEN && behindLetter) {
                read.setNumber(read.size(), 1);
                behindLetter = false;
            } else {
                if (!isLetter(b) || !read.append(b)) {
                    return false;
                }
                behindLetter = true;
            }
        }
        // With a letter too many there is no room left for this edge.
        return behindLetter && read.append(EDGE);
    }

    private boolean draftIsWord() {
        if (drafted < 1 || drafted > MOST_LETTERS) {
            return false;
        }
        for (int i = 0; i < drafted; i++) {
            if (!isLetter(elementAt(draft, i))) {
                return false;
            }
        }
        return true;
    }

    private void copyDraftToAsked() {
        asked.clear();
        asked.append(EDGE);
        for (int i = 0; i < drafted; i++) {
            asked.append(elementAt(draft, i));
        }
        asked.append(EDGE);
    }

    /** Below 1 as long as no word was asked for. */
    private int lettersOfAsked() {
        return asked.size() - 2;
    }

    private long cutsOfAsked() {
        int[] told = exceptions.numbersOf(asked);
        long cuts = 0;
        for (int k = left; k <= lettersOfAsked() - right; k++) {
            int place = placeBehind(k);
            int number = told == null ? asked.numberAt(place) : elementAt(told, place);
            if ((number & 1) == 1) {
                cuts |= 1L << k;
            }
        }
        return cuts;
    }

    /** Signs in order, and a number at each place: ahead of sign 0 and behind every sign. */
    private static final class SignRow {
        private final int[] signs = new int[MOST_SIGNS];
        private final int[] numbers = new int[MOST_SIGNS + 1];
        private int size = 0;

        int size() {
            return size;
        }

        void clear() {
            size = 0;
            Arrays.fill(numbers, 0);
        }

        boolean append(int sign) {
            if (size >= signs.length) {
                return false;
            }
            signs[size] = sign;
            size++;
            return true;
        }

        /** 0, which is no sign, behind the last one. */
        int signAt(int i) {
            return i < size ? elementAt(signs, i) : 0;
        }

        int numberAt(int place) {
            return elementAt(numbers, place);
        }

        void setNumber(int place, int number) {
            if (place >= 0 && place < numbers.length) {
                numbers[place] = number;
            }
        }

        void raiseNumber(int place, int number) {
            if (number > numberAt(place)) {
                setNumber(place, number);
            }
        }

        int[] copyOfNumbers() {
            return numbers.clone();
        }
    }

    /** A beginning: the signs from the tree's root down to it. */
    private static final class Node {
        private final int sign;
        private Node firstChild = null;
        private Node nextSibling = null;
        /** The numbers of the row that ends here; null if it is a beginning alone. */
        private int[] numbers = null;

        Node(int sign) {
            this.sign = sign;
        }

        Node childWith(int wanted) {
            for (Node child = firstChild; child != null; child = child.nextSibling) {
                if (child.sign == wanted) {
                    return child;
                }
            }
            return null;
        }

        Node newChild(int newSign) {
            Node child = new Node(newSign);
            child.nextSibling = firstChild;
            firstChild = child;
            return child;
        }
    }

    /**
     * Rows of signs with their numbers, held by their beginnings, so that one way down meets all
     * that fit at a place.
     */
    private static final class SignTree {
        private final Node root = new Node(0);
        private int entries = 0;
        private int beginnings = 0;

        int entries() {
            return entries;
        }

        int beginnings() {
            return beginnings;
        }

        /** The numbers that were entered with the row's signs; null if these were not. */
        int[] numbersOf(SignRow row) {
            Node node = root;
            for (int i = 0; i < row.size(); i++) {
                node = node.childWith(row.signAt(i));
                if (node == null) {
                    return null;
                }
            }
            return node.numbers;
        }

        /** How many beginnings there would be with the row entered. */
        int beginningsWith(SignRow row) {
            Node node = root;
            for (int i = 0; i < row.size(); i++) {
                node = node.childWith(row.signAt(i));
                if (node == null) {
                    return beginnings + row.size() - i;
                }
            }
            return beginnings;
        }

        void enter(SignRow row) {
            Node node = root;
            for (int i = 0; i < row.size(); i++) {
                Node child = node.childWith(row.signAt(i));
                if (child == null) {
                    child = node.newChild(row.signAt(i));
                    beginnings++;
                }
                node = child;
            }
            if (node.numbers == null) {
                entries++;
            }
            node.numbers = row.copyOfNumbers();
        }

        /** Raises the row's numbers to the greatest of all entries that fit anywhere in it. */
        void raiseNumbers(SignRow row) {
            for (int start = 0; start < row.size(); start++) {
                raiseNumbersFrom(start, row);
            }
        }

        private void raiseNumbersFrom(int start, SignRow row) {
            Node node = root;
            for (int i = start; i < row.size(); i++) {
                node = node.childWith(row.signAt(i));
                if (node == null) {
                    return;
                }
                if (node.numbers != null) {
                    raiseBetween(start, i + 1, node.numbers, row);
                }
            }
        }

        private static void raiseBetween(int start, int end, int[] numbers, SignRow row) {
            for (int place = start; place <= end; place++) {
                row.raiseNumber(place, elementAt(numbers, place - start));
            }
        }
    }
}
