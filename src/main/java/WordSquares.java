import java.util.Arrays;

/**
 * Word squares: all ways to write words of a list in the rows of a square so that the columns are words, too.
 *
 * <p>Words are numbered 0 to 11, so four bits hold a word, sixteen bits hold the rows of a square, and one int holds
 * its rows and its columns. Tables that such a number is an index of have 16 places, so that no index can be wrong.
 */
public final class WordSquares {
    public static final int NONE = -1, UNKNOWN = -101, OUTSIDE = -102, STATE = -103, FULL = -104;

    private static final int MOST_WORDS = 12;
    private static final int SHORTEST = 2;
    private static final int LONGEST = 4;
    private static final int ROOM = 60;
    private static final int KINDS = 3;
    private static final int GREATEST_WEIGHT = 9;
    private static final int DIGEST_SQUARES = 40;

    private static final int WORD_BITS = 4;
    private static final int WORD_MASK = 15;
    private static final int WORD_PLACES = 16;
    private static final int LETTER_BITS = 5;
    private static final int LETTER_MASK = 31;
    private static final int LETTER_PLACES = 32;

    private final Text text = new Text();
    private final WordList list = new WordList();
    private final Finder finder = new Finder(list);
    private final Board table = new Board();
    private final int[] best = new int[KINDS];

    // The squares are found again at once when the list changes; what follows from the weights and from the board is
    // found when it is asked for, and kept until one of them changes.
    private boolean compared = false;
    private boolean looked = false;

    private int additions = 0;
    private int removals = 0;

    public WordSquares() {
    }

    public int letter(int code) {
        if (code < 32 || code > 126) {
            return OUTSIDE;
        }
        if (text.size() >= ROOM) {
            return FULL;
        }
        text.append(code);
        return text.size();
    }

    public int blank() {
        int before = text.size();
        text.clear();
        return before;
    }

    public int fault() {
        return text.firstFault();
    }

    public int words() {
        int length = text.lengthOfWords();
        if (length == 0 || !list.takesLength(length)) {
            return STATE;
        }
        int many = text.numberOfWords(length);
        for (int k = 0; k < many; k++) {
            if (list.find(text.codeOf(k, length)) != NONE) {
                return STATE;
            }
        }
        if (list.size() + many > MOST_WORDS) {
            return FULL;
        }
        for (int k = 0; k < many; k++) {
            list.insert(text.codeOf(k, length), length);
        }
        text.clear();
        additions++;
        renew();
        return many;
    }

    public int strike(int word) {
        if (!list.has(word)) {
            return UNKNOWN;
        }
        list.delete(word);
        removals++;
        renew();
        return list.size();
    }

    public int weigh(int word, int v) {
        if (!list.has(word)) {
            return UNKNOWN;
        }
        if (v < 1 || v > GREATEST_WEIGHT) {
            return OUTSIDE;
        }
        int before = list.weightOf(word);
        list.setWeight(word, v);
        compared = false;
        return before;
    }

    public int about(int what) {
        switch (what) {
            case 0: return list.length();
            case 1: return list.size();
            case 2: return list.numberOfPrefixes();
            case 3: return list.numberOfLetters();
            case 4: return list.sumOfWeights();
            case 5: return list.numberOfReversible();
            default: return OUTSIDE;
        }
    }

    public int word(int word, int what) {
        if (!list.has(word)) {
            return UNKNOWN;
        }
        switch (what) {
            case 0: return list.weightOf(word);
            case 1: return list.find(list.reversalOf(word));
            case 2: return finder.timesInRows(word);
            case 3: return finder.timesInColumns(word);
            case 4: return finder.timesInSymmetric(word);
            default: return OUTSIDE;
        }
    }

    public int sign(int word, int place) {
        if (!list.has(word) || !list.hasPlace(place)) {
            return UNKNOWN;
        }
        return 'a' + list.letterAt(word, place);
    }

    public int begins(int word, int many) {
        if (!list.has(word)) {
            return UNKNOWN;
        }
        if (many < 0 || many > list.length()) {
            return OUTSIDE;
        }
        return list.numberWithPrefix(list.prefixOf(word, many), many);
    }

    public int squares(int kind) {
        if (!isKind(kind)) {
            return OUTSIDE;
        }
        return finder.ofKind(kind).size();
    }

    public int row(int kind, int square, int row) {
        if (!isKind(kind)) {
            return OUTSIDE;
        }
        SquareList chosen = finder.ofKind(kind);
        if (!chosen.has(square) || !list.hasPlace(row)) {
            return UNKNOWN;
        }
        return packedWord(chosen.rowsOf(square), row, list.length());
    }

    public int turned(int square) {
        SquareList all = finder.ofKind(0);
        if (!all.has(square)) {
            return UNKNOWN;
        }
        return all.withRows(all.columnsOf(square));
    }

    public int heaviest(int kind) {
        if (!isKind(kind)) {
            return OUTSIDE;
        }
        if (!compared) {
            for (int k = 0; k < KINDS; k++) {
                best[k] = greatestOf(finder.ofKind(k));
            }
            compared = true;
        }
        return best[kind];
    }

    public int heavy(int square) {
        SquareList all = finder.ofKind(0);
        if (!all.has(square)) {
            return UNKNOWN;
        }
        return weightOfSquare(all, square);
    }

    public int put(int row, int word) {
        if (!list.hasPlace(row) || !list.has(word)) {
            return UNKNOWN;
        }
        int before = table.given(row);
        table.give(row, word);
        looked = false;
        return before;
    }

    public int lift(int row) {
        if (!list.hasPlace(row)) {
            return UNKNOWN;
        }
        int before = table.given(row);
        if (before == NONE) {
            return STATE;
        }
        table.give(row, NONE);
        looked = false;
        return before;
    }

    public int board(int row) {
        if (!list.hasPlace(row)) {
            return UNKNOWN;
        }
        return table.given(row);
    }

    public int fitting() {
        return lookedBoard().numberOfFitting();
    }

    public int may(int row) {
        if (!list.hasPlace(row)) {
            return UNKNOWN;
        }
        return lookedBoard().possible(row);
    }

    public int sure(int row, int column) {
        if (!list.hasPlace(row) || !list.hasPlace(column)) {
            return UNKNOWN;
        }
        if (lookedBoard().numberOfFitting() == 0) {
            return STATE;
        }
        int letter = list.commonLetter(lookedBoard().possible(row), column);
        return letter == NONE ? NONE : 'a' + letter;
    }

    public int search(int what) {
        if (what < 0 || what > 4) {
            return OUTSIDE;
        }
        if (list.size() == 0) {
            return STATE;
        }
        switch (what) {
            case 0: return finder.plainVisits();
            case 1: return finder.plainDead();
            case 2: return finder.memoryVisits();
            case 3: return finder.memoryCuts();
            default: return finder.memorySize();
        }
    }

    public int count(int what) {
        switch (what) {
            case 0: return list.size();
            case 1: return text.size();
            case 2: return table.numberOfGiven();
            case 3: return additions;
            case 4: return removals;
            default: return OUTSIDE;
        }
    }

    public long digest() {
        long h = 1579;
        for (int what = 0; what <= 5; what++) {
            h = mix(h, about(what));
        }
        h = mixWords(h);
        h = mixSquares(h);
        h = mixBoard(h);
        for (int what = 0; what <= 4 && list.size() > 0; what++) {
            h = mix(h, search(what));
        }
        for (int i = 0; i < text.size(); i++) {
            h = mix(h, text.codeAt(i));
        }
        for (int what = 0; what <= 4; what++) {
            h = mix(h, count(what));
        }
        return h;
    }

    private long mixWords(long start) {
        long h = start;
        for (int w = 0; w < list.size(); w++) {
            for (int place = 0; place < list.length(); place++) {
                h = mix(h, sign(w, place));
            }
            for (int what = 0; what <= 4; what++) {
                h = mix(h, word(w, what));
            }
        }
        return h;
    }

    private long mixSquares(long start) {
        long h = start;
        for (int kind = 0; kind < KINDS; kind++) {
            h = mix(h, squares(kind));
        }
        int shown = Math.min(squares(0), DIGEST_SQUARES);
        for (int k = 0; k < shown; k++) {
            for (int r = 0; r < list.length(); r++) {
                h = mix(h, row(0, k, r));
            }
        }
        for (int kind = 0; kind < KINDS; kind++) {
            h = mix(h, heaviest(kind));
        }
        return h;
    }

    private long mixBoard(long start) {
        long h = start;
        boolean fits = fitting() > 0;
        for (int r = 0; r < list.length(); r++) {
            h = mix(h, board(r));
            h = mix(h, may(r));
            for (int c = 0; c < list.length() && fits; c++) {
                h = mix(h, sure(r, c));
            }
        }
        return mix(h, fitting());
    }

    private static long mix(long h, int v) {
        return 31 * h + v;
    }

    private static boolean isKind(int kind) {
        return kind >= 0 && kind < KINDS;
    }

    /** Row 0 stands in the highest bits, so that packed rows compare as the squares do. */
    private static int packedWord(int packed, int place, int length) {
        return (packed >> WORD_BITS * (length - 1 - place)) & WORD_MASK;
    }

    private void renew() {
        finder.run();
        table.clear();
        compared = false;
        looked = false;
    }

    private Board lookedBoard() {
        if (!looked) {
            table.look(finder.ofKind(0), list.length());
            looked = true;
        }
        return table;
    }

    private int greatestOf(SquareList chosen) {
        int at = NONE;
        int greatest = 0;
        for (int k = 0; k < chosen.size(); k++) {
            int weight = weightOfSquare(chosen, k);
            if (weight > greatest) {
                greatest = weight;
                at = k;
            }
        }
        return at;
    }

    private int weightOfSquare(SquareList chosen, int square) {
        int rows = chosen.rowsOf(square);
        int columns = chosen.columnsOf(square);
        int sum = 0;
        for (int i = 0; i < list.length(); i++) {
            sum += list.weightOf(rows & WORD_MASK) + list.weightOf(columns & WORD_MASK);
            rows >>= WORD_BITS;
            columns >>= WORD_BITS;
        }
        return sum;
    }

    /** The text buffer, and how a list is read from it. */
    private static final class Text {
        private final int[] signs = new int[ROOM];
        private int size = 0;

        int size() {
            return size;
        }

        void append(int code) {
            if (size < ROOM) {
                signs[size] = code;
                size++;
            }
        }

        void clear() {
            size = 0;
        }

        int codeAt(int i) {
            return i >= 0 && i < size ? signs[i] : 0;
        }

        int firstFault() {
            int length = 0; // of all words; 0 as long as the first word may go on
            int start = 0;
            int begun = 1;
            for (int i = 0; i < size; i++) {
                int inWord = i - start;
                if (signs[i] == ',') {
                    boolean whole = length == 0 ? inWord >= SHORTEST : inWord == length;
                    if (!whole || begun == MOST_WORDS) {
                        return i;
                    }
                    length = inWord;
                    start = i + 1;
                    begun++;
                } else if (!isLetter(signs[i]) || inWord >= (length == 0 ? LONGEST : length)) {
                    return i;
                } else if (inWord == length - 1 && repeats(start, length)) {
                    return i;
                }
            }
            return size;
        }

        private static boolean isLetter(int sign) {
            return sign >= 'a' && sign <= 'z';
        }

        private boolean repeats(int start, int length) {
            for (int other = 0; other < start; other += length + 1) {
                if (sameWord(other, start, length)) {
                    return true;
                }
            }
            return false;
        }

        private boolean sameWord(int one, int other, int length) {
            for (int i = 0; i < length; i++) {
                if (codeAt(one + i) != codeAt(other + i)) {
                    return false;
                }
            }
            return true;
        }

        /** 0 if the text is not a list. */
        int lengthOfWords() {
            if (firstFault() < size) {
                return 0;
            }
            int length = firstComma();
            if (length < SHORTEST || (size + 1) % (length + 1) != 0) {
                return 0;
            }
            return length;
        }

        private int firstComma() {
            for (int i = 0; i < size; i++) {
                if (signs[i] == ',') {
                    return i;
                }
            }
            return size;
        }

        int numberOfWords(int length) {
            return length < SHORTEST ? 0 : (size + 1) / (length + 1);
        }

        int codeOf(int number, int length) {
            int start = number * (length + 1);
            int code = 0;
            for (int i = 0; i < length; i++) {
                code = (code << LETTER_BITS) | ((codeAt(start + i) - 'a') & LETTER_MASK);
            }
            return code;
        }
    }

    /** The words in alphabetical order, each as a number of five bits a letter, with their weights. */
    private static final class WordList {
        private final int[] codes = new int[WORD_PLACES];
        private final int[] weights = new int[WORD_PLACES];
        private int size = 0;
        private int length = 0;

        int size() {
            return size;
        }

        int length() {
            return length;
        }

        boolean has(int number) {
            return number >= 0 && number < size;
        }

        boolean hasPlace(int place) {
            return place >= 0 && place < length;
        }

        boolean takesLength(int wanted) {
            return size == 0 || wanted == length;
        }

        int find(int code) {
            for (int w = 0; w < size; w++) {
                if (codes[w] == code) {
                    return w;
                }
            }
            return NONE;
        }

        void insert(int code, int lengthOfCode) {
            if (size >= MOST_WORDS) {
                return;
            }
            int at = size;
            for (; at > 0 && codes[at - 1] > code; at--) {
                codes[at] = codes[at - 1];
                weights[at] = weights[at - 1];
            }
            codes[at] = code;
            weights[at] = 1;
            size++;
            length = lengthOfCode;
        }

        void delete(int number) {
            if (!has(number)) {
                return;
            }
            size--;
            for (int w = number; w < size; w++) {
                codes[w] = codes[w + 1];
                weights[w] = weights[w + 1];
            }
            if (size == 0) {
                length = 0;
            }
        }

        int weightOf(int number) {
            return weights[number & WORD_MASK];
        }

        void setWeight(int number, int weight) {
            weights[number & WORD_MASK] = weight;
        }

        /** From 0 for a. */
        int letterAt(int number, int place) {
            return (codes[number & WORD_MASK] >> LETTER_BITS * (length - 1 - place)) & LETTER_MASK;
        }

        int prefixOf(int number, int many) {
            return codes[number & WORD_MASK] >> LETTER_BITS * (length - many);
        }

        int restOf(int number, int many) {
            return codes[number & WORD_MASK] & ((1 << LETTER_BITS * (length - many)) - 1);
        }

        boolean samePrefix(int one, int other, int many) {
            int difference = codes[one & WORD_MASK] ^ codes[other & WORD_MASK];
            return difference >> LETTER_BITS * (length - many) == 0;
        }

        int reversalOf(int number) {
            int code = 0;
            for (int place = length - 1; place >= 0; place--) {
                code = (code << LETTER_BITS) | letterAt(number, place);
            }
            return code;
        }

        int numberWithPrefix(int prefix, int many) {
            int n = 0;
            for (int w = 0; w < size; w++) {
                if (prefixOf(w, many) == prefix) {
                    n++;
                }
            }
            return n;
        }

        int numberOfPrefixes() {
            int n = 0;
            for (int many = 0; many <= length; many++) {
                for (int w = 0; w < size; w++) {
                    if (w == 0 || !samePrefix(w - 1, w, many)) {
                        n++;
                    }
                }
            }
            return n;
        }

        int numberOfLetters() {
            int seen = 0;
            for (int w = 0; w < size; w++) {
                for (int place = 0; place < length; place++) {
                    seen |= 1 << letterAt(w, place);
                }
            }
            return Integer.bitCount(seen);
        }

        int sumOfWeights() {
            int sum = 0;
            for (int w = 0; w < size; w++) {
                sum += weights[w];
            }
            return sum;
        }

        int numberOfReversible() {
            int n = 0;
            for (int w = 0; w < size; w++) {
                if (find(reversalOf(w)) != NONE) {
                    n++;
                }
            }
            return n;
        }

        /** The letter that all words of a set have at a place; NONE if they differ there, or the set is empty. */
        int commonLetter(int set, int place) {
            int common = NONE;
            for (int w = 0; w < size; w++) {
                if ((set >> w & 1) != 0) {
                    int letter = letterAt(w, place);
                    if (common != NONE && letter != common) {
                        return NONE;
                    }
                    common = letter;
                }
            }
            return common;
        }
    }

    /**
     * How prefixes go on. A prefix of a known length is told by its head, the first word that begins with it; the head
     * of a whole word is the word itself.
     */
    private static final class Prefixes {
        private final WordList list;
        private final int[][] longer = new int[LONGEST][WORD_PLACES * LETTER_PLACES];
        private final int[][] takers = new int[LONGEST][WORD_PLACES * LONGEST];
        private final int[][] likes = new int[LONGEST][WORD_PLACES];

        Prefixes(WordList list) {
            this.list = list;
        }

        void build() {
            for (int many = 0; many < list.length() && many < LONGEST; many++) {
                buildLonger(many);
                for (int w = 0; w < list.size(); w++) {
                    if (isHead(w, many)) {
                        buildTakers(many, w);
                        likes[many][w & WORD_MASK] = firstAlike(many, w);
                    }
                }
            }
        }

        private boolean isHead(int word, int many) {
            return word == 0 || !list.samePrefix(word - 1, word, many);
        }

        private void buildLonger(int many) {
            Arrays.fill(longer[many], NONE);
            int head = 0;
            for (int w = 0; w < list.size(); w++) {
                if (isHead(w, many)) {
                    head = w;
                }
                int at = placeOf(head, list.letterAt(w, many));
                if (longer[many][at] == NONE) {
                    longer[many][at] = w;
                }
            }
        }

        private void buildTakers(int many, int head) {
            for (int column = 0; column < LONGEST; column++) {
                int set = 0;
                for (int w = 0; w < list.size() && column < list.length(); w++) {
                    if (longer[many][placeOf(head, list.letterAt(w, column))] != NONE) {
                        set |= 1 << w;
                    }
                }
                takers[many][(head & WORD_MASK) * LONGEST + column] = set;
            }
        }

        private int firstAlike(int many, int head) {
            for (int w = 0; w < head; w++) {
                if (isHead(w, many) && sameRests(many, w, head)) {
                    return w;
                }
            }
            return head;
        }

        /** The words stand in order, so equal sets of rests come in the same order behind both heads. */
        private boolean sameRests(int many, int one, int other) {
            for (int i = 0; i <= list.size(); i++) {
                boolean inOne = list.has(one + i) && list.samePrefix(one, one + i, many);
                boolean inOther = list.has(other + i) && list.samePrefix(other, other + i, many);
                if (!inOne || !inOther) {
                    return inOne == inOther;
                }
                if (list.restOf(one + i, many) != list.restOf(other + i, many)) {
                    return false;
                }
            }
            return true;
        }

        private static int placeOf(int head, int letter) {
            return (head & WORD_MASK) * LETTER_PLACES + (letter & LETTER_MASK);
        }

        /** The set of words that can be the next row below columns with these heads. */
        int nextRows(int many, int heads) {
            int set = (1 << list.size()) - 1;
            for (int column = 0; column < list.length() && column < LONGEST; column++) {
                int head = packedWord(heads, column, list.length());
                set &= takers[many & 3][head * LONGEST + column];
            }
            return set;
        }

        /** The heads of the columns when a word comes below them. */
        int headsWith(int many, int heads, int word) {
            int next = 0;
            for (int column = 0; column < list.length(); column++) {
                int head = packedWord(heads, column, list.length());
                int grown = longer[many & 3][placeOf(head, list.letterAt(word, column))];
                next = (next << WORD_BITS) | (grown & WORD_MASK);
            }
            return next;
        }

        /** A number that two states have in common if and only if they are alike. */
        int likeness(int many, int heads) {
            int key = many;
            for (int column = 0; column < LONGEST; column++) {
                int like = 0;
                if (column < list.length()) {
                    like = likes[many & 3][packedWord(heads, column, list.length())];
                }
                key = key * MOST_WORDS + like;
            }
            return key;
        }
    }

    /** Squares in their order, each as its packed rows with its packed columns above them. */
    private static final class SquareList {
        private static final int FIRST_ROOM = 64;
        private static final int HALF = 16;
        private static final int HALF_MASK = 65535;
        // No list has more squares than there are ways to choose the four rows.
        private static final int MOST_SQUARES = 20736;
        private static final int FIRST_STEP = 16384;

        private int[] items = new int[FIRST_ROOM];
        private int size = 0;

        int size() {
            return size;
        }

        void clear() {
            size = 0;
        }

        void append(int rows, int columns) {
            if (size >= MOST_SQUARES) {
                return;
            }
            if (size >= items.length) {
                items = Arrays.copyOf(items, 2 * size);
            }
            items[size] = (columns << HALF) | rows;
            size++;
        }

        boolean has(int square) {
            return square >= 0 && square < size;
        }

        int rowsOf(int square) {
            return has(square) ? items[square] & HALF_MASK : 0;
        }

        int columnsOf(int square) {
            return has(square) ? items[square] >>> HALF : 0;
        }

        int withRows(int rows) {
            int at = 0;
            for (int step = FIRST_STEP; step > 0; step /= 2) {
                if (at + step < size && rowsOf(at + step) <= rows) {
                    at += step;
                }
            }
            return at;
        }
    }

    /** The states that were found dead, by their likeness. */
    private static final class DeadEnds {
        private static final int LIKENESSES = 82944; // 4 lengths, and 12 heads for each of 4 columns
        private static final int BITS = 64;

        private final long[] seen = new long[LIKENESSES / BITS];
        private int size = 0;

        int size() {
            return size;
        }

        void clear() {
            Arrays.fill(seen, 0L);
            size = 0;
        }

        boolean has(int key) {
            return key >= 0 && key < LIKENESSES && (seen[key / BITS] >>> (key % BITS) & 1L) != 0L;
        }

        void add(int key) {
            if (key >= 0 && key < LIKENESSES && !has(key)) {
                seen[key / BITS] |= 1L << (key % BITS);
                size++;
            }
        }
    }

    /** Both searches through a list, and what they found. */
    private static final class Finder {
        private final WordList list;
        private final Prefixes prefixes;
        private final DeadEnds deadEnds = new DeadEnds();
        private final SquareList all = new SquareList();
        private final SquareList symmetric = new SquareList();
        private final SquareList different = new SquareList();
        private final int[] inRows = new int[WORD_PLACES];
        private final int[] inColumns = new int[WORD_PLACES];
        private final int[] inSymmetric = new int[WORD_PLACES];
        private int visits = 0;
        private int dead = 0;
        private int visitsWithMemory = 0;
        private int cuts = 0;

        Finder(WordList list) {
            this.list = list;
            this.prefixes = new Prefixes(list);
        }

        SquareList ofKind(int kind) {
            switch (kind) {
                case 1: return symmetric;
                case 2: return different;
                default: return all;
            }
        }

        int timesInRows(int number) {
            return inRows[number & WORD_MASK];
        }

        int timesInColumns(int number) {
            return inColumns[number & WORD_MASK];
        }

        int timesInSymmetric(int number) {
            return inSymmetric[number & WORD_MASK];
        }

        int plainVisits() {
            return visits;
        }

        int plainDead() {
            return dead;
        }

        int memoryVisits() {
            return visitsWithMemory;
        }

        int memoryCuts() {
            return cuts;
        }

        int memorySize() {
            return deadEnds.size();
        }

        void run() {
            clear();
            // Without words there is no square, not even one without rows.
            if (list.size() > 0) {
                prefixes.build();
                explore(0, 0, 0);
                exploreWithMemory(0, 0);
            }
        }

        private void clear() {
            deadEnds.clear();
            all.clear();
            symmetric.clear();
            different.clear();
            Arrays.fill(inRows, 0);
            Arrays.fill(inColumns, 0);
            Arrays.fill(inSymmetric, 0);
            visits = 0;
            dead = 0;
            visitsWithMemory = 0;
            cuts = 0;
        }

        /** Whether a square was found from this state. */
        private boolean explore(int depth, int rows, int heads) {
            visits++;
            if (depth >= list.length()) {
                keep(rows, heads);
                return true;
            }
            int next = prefixes.nextRows(depth, heads);
            boolean any = false;
            for (int w = 0; w < list.size(); w++) {
                if ((next >> w & 1) != 0
                        && explore(depth + 1, (rows << WORD_BITS) | w, prefixes.headsWith(depth, heads, w))) {
                    any = true;
                }
            }
            if (!any) {
                dead++;
            }
            return any;
        }

        private boolean exploreWithMemory(int depth, int heads) {
            visitsWithMemory++;
            if (depth >= list.length()) {
                return true;
            }
            int key = prefixes.likeness(depth, heads);
            if (deadEnds.has(key)) {
                cuts++;
                return false;
            }
            int next = prefixes.nextRows(depth, heads);
            boolean any = false;
            for (int w = 0; w < list.size(); w++) {
                if ((next >> w & 1) != 0 && exploreWithMemory(depth + 1, prefixes.headsWith(depth, heads, w))) {
                    any = true;
                }
            }
            if (!any) {
                deadEnds.add(key);
            }
            return any;
        }

        private void keep(int rows, int columns) {
            all.append(rows, columns);
            int rowSet = 0;
            int columnSet = 0;
            for (int i = 0; i < list.length(); i++) {
                int inRow = packedWord(rows, i, list.length());
                int inColumn = packedWord(columns, i, list.length());
                inRows[inRow]++;
                inColumns[inColumn]++;
                rowSet |= 1 << inRow;
                columnSet |= 1 << inColumn;
            }
            if (rows == columns) {
                symmetric.append(rows, columns);
                countSymmetric(rowSet);
            }
            if (Integer.bitCount(rowSet) + Integer.bitCount(columnSet) == 2 * list.length()
                    && (rowSet & columnSet) == 0) {
                different.append(rows, columns);
            }
        }

        private void countSymmetric(int set) {
            for (int w = 0; w < WORD_PLACES; w++) {
                inSymmetric[w] += set >> w & 1;
            }
        }
    }

    /** The words that are given, and what the squares that fit them have. */
    private static final class Board {
        private final int[] placed = {NONE, NONE, NONE, NONE};
        private final int[] sets = new int[LONGEST];
        private int fits = 0;

        void clear() {
            Arrays.fill(placed, NONE);
        }

        int given(int place) {
            return place >= 0 && place < LONGEST ? placed[place] : NONE;
        }

        void give(int place, int number) {
            if (place >= 0 && place < LONGEST) {
                placed[place] = number;
            }
        }

        int numberOfGiven() {
            int n = 0;
            for (int i = 0; i < LONGEST; i++) {
                if (placed[i] != NONE) {
                    n++;
                }
            }
            return n;
        }

        int numberOfFitting() {
            return fits;
        }

        /** The set of words that stand at a place of the squares seen by the last look. */
        int possible(int place) {
            return place >= 0 && place < LONGEST ? sets[place] : 0;
        }

        void look(SquareList all, int length) {
            int mask = 0;
            int wanted = 0;
            for (int i = 0; i < length && i < LONGEST; i++) {
                boolean free = placed[i] == NONE;
                mask = (mask << WORD_BITS) | (free ? 0 : WORD_MASK);
                wanted = (wanted << WORD_BITS) | (free ? 0 : placed[i]);
            }
            fits = 0;
            Arrays.fill(sets, 0);
            for (int k = 0; k < all.size(); k++) {
                int rows = all.rowsOf(k);
                if ((rows & mask) == wanted) {
                    fits++;
                    addRows(rows, length);
                }
            }
        }

        private void addRows(int rows, int length) {
            for (int i = 0; i < length && i < LONGEST; i++) {
                sets[i] |= 1 << packedWord(rows, i, length);
            }
        }
    }
}
