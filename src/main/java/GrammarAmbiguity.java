import java.util.NoSuchElementException;

/**
 * A workbench for ambiguous context-free grammars: numbers of trees and of words, words and trees
 * by their ranks, and uniform draws of both.
 *
 * <p>All rows are made once, in the constructors, and used again by every call.
 */
public final class GrammarAmbiguity {
    private static final int MAX_NONTERMINALS = 6;
    private static final int MAX_TERMINALS = 3;
    private static final int MAX_PRODUCTIONS = 24;
    private static final int MAX_PARTS = 3;
    private static final int MAX_WORD = 8;
    private static final int MAX_RANKED = 6;
    private static final int MAX_COUNTED = 10;
    private static final int MAX_SLOTS = 3;
    private static final int MAX_ELEMENTS = 40;
    private static final int FIRST_TERMINAL = 10;
    private static final int NO_SYMBOL = -1;

    /** Every node has a terminal alone or at least two parts: 8 of the former, 7 of the latter. */
    private static final int MAX_NODES = 2 * MAX_WORD - 1;

    private static final long SEED_FACTOR = 6364136223846793005L;
    private static final long SEED_SUMMAND = 1442695040888963407L;

    /** The powers 0 to 6 of 1, of 2 and of 3. */
    private static final int[] POWERS = {
        1, 1, 1, 1, 1, 1, 1,
        1, 2, 4, 8, 16, 32, 64,
        1, 3, 9, 27, 81, 243, 729
    };

    /** Where the words of the lengths 0 to 6 begin in a row of all words, with 3 terminals. */
    private static final int[] WORD_PLACES = {0, 1, 4, 13, 40, 121, 364};
    private static final int WORD_ROW = 1093;

    /** A row for each symbol, and one for the symbol that a right side does not have. */
    private static final int WORD_ROWS = MAX_NONTERMINALS + MAX_TERMINALS + 1;

    private final Grammar grammar;
    private final Word word;
    private final Grammar savedGrammar;
    private final Word savedWord;
    private final LengthCounts lengths;
    private final SpanCounts spans;
    private final WordCounts words;
    private final Tree tree;
    private final Slots slots;
    private boolean saved;

    public GrammarAmbiguity() {
        grammar = new Grammar();
        word = new Word();
        savedGrammar = new Grammar();
        savedWord = new Word();
        lengths = new LengthCounts(grammar);
        spans = new SpanCounts(grammar, word);
        words = new WordCounts(grammar, lengths);
        tree = new Tree(grammar);
        slots = new Slots();
        saved = false;
    }

    public void reset(int nonterminals, int terminals) throws IllegalArgumentException {
        if (nonterminals < 1 || nonterminals > MAX_NONTERMINALS) {
            throw new IllegalArgumentException("the number of nonterminals is out of range");
        }
        if (terminals < 1 || terminals > MAX_TERMINALS) {
            throw new IllegalArgumentException("the number of terminals is out of range");
        }
        grammar.begin(nonterminals, terminals);
        word.length = 0;
        forgetGrammar();
    }

    public int addProduction(int left, int first, int second, int third)
            throws IllegalArgumentException, IllegalStateException {
        if (!grammar.isNonterminal(left) || !grammar.isRightSide(first, second, third)) {
            throw new IllegalArgumentException("this is no production of the grammar");
        }
        if (grammar.holds(left, first, second, third)) {
            throw new IllegalArgumentException("an equal production exists");
        }
        if (grammar.productions >= MAX_PRODUCTIONS) {
            throw new IllegalStateException("there is no room for a production");
        }
        int production = grammar.productions;
        grammar.add(left, first, second, third);
        forgetGrammar();
        return production;
    }

    public int removeProduction(int production) throws IllegalArgumentException {
        checkProduction(production);
        grammar.remove(production);
        forgetGrammar();
        return grammar.productions;
    }

    public int removeUseless() {
        int removed = grammar.removeUnused();
        forgetGrammar();
        return removed;
    }

    public int productionCount() {
        return grammar.productions;
    }

    public int productionSymbol(int production, int position)
            throws IllegalArgumentException, IndexOutOfBoundsException {
        checkProduction(production);
        if (position < 0 || position > MAX_PARTS) {
            throw new IndexOutOfBoundsException("the position is not from 0 to 3");
        }
        return grammar.symbol(production, position);
    }

    public int setStart(int nonterminal) throws IllegalArgumentException {
        checkNonterminal(nonterminal);
        int previous = grammar.start;
        grammar.start = nonterminal;
        tree.present = false;
        return previous;
    }

    public int shortestLength(int nonterminal) throws IllegalArgumentException {
        checkNonterminal(nonterminal);
        grammar.measure();
        return grammar.shortestPart(nonterminal);
    }

    public int append(int terminal) throws IllegalArgumentException, IllegalStateException {
        if (!grammar.isTerminal(terminal)) {
            throw new IllegalArgumentException("there is no such terminal");
        }
        if (word.length >= MAX_WORD) {
            throw new IllegalStateException("the word has 8 terminals");
        }
        word.length++;
        word.put(word.length - 1, terminal);
        tree.present = false;
        return word.length;
    }

    public int clearWord() {
        int previous = word.length;
        word.length = 0;
        tree.present = false;
        return previous;
    }

    public int wordLength() {
        return word.length;
    }

    public int terminalAt(int position) throws IndexOutOfBoundsException {
        if (position < 0 || position >= word.length) {
            throw new IndexOutOfBoundsException("there is no such position");
        }
        return word.letter(position);
    }

    public long treeCount() {
        countSpans();
        return spans.count(grammar.start, word.length, 0);
    }

    public long treesOfLength(int length) throws IllegalArgumentException {
        checkLength(length, MAX_COUNTED);
        return allTrees(length);
    }

    public int wordsOfLength(int length, int trees) throws IllegalArgumentException {
        checkLength(length, MAX_RANKED);
        if (trees < 0 || trees > 3) {
            throw new IllegalArgumentException("trees is not from 0 to 3");
        }
        countWords(length);
        int inLanguage = words.atLeast(1, length);
        int ambiguous = words.atLeast(2, length);
        switch (trees) {
            case 0:
                return words.ofLength(length) - inLanguage;
            case 1:
                return inLanguage - ambiguous;
            case 2:
                return ambiguous;
            default:
                return inLanguage;
        }
    }

    public double unambiguousShare(int length) throws IllegalArgumentException {
        checkLength(length, MAX_RANKED);
        countWords(length);
        int inLanguage = words.atLeast(1, length);
        if (inLanguage < 1) {
            return 1.0;
        }
        int unambiguous = inLanguage - words.atLeast(2, length);
        return (double) unambiguous / (double) inLanguage;
    }

    public double averageTrees(int length)
            throws IllegalArgumentException, NoSuchElementException {
        checkLength(length, MAX_RANKED);
        countWords(length);
        int inLanguage = words.atLeast(1, length);
        if (inLanguage < 1) {
            throw new NoSuchElementException("the language has no word of this length");
        }
        return (double) allTrees(length) / (double) inLanguage;
    }

    public int firstAmbiguous(int limit) throws IllegalArgumentException, NoSuchElementException {
        checkLength(limit, MAX_RANKED);
        for (int length = 1; length <= limit; length++) {
            countWords(length);
            int key = words.find(2, length, 0);
            if (key >= 0) {
                setWord(length, key);
                return length;
            }
        }
        throw new NoSuchElementException("no word of at most this length is ambiguous");
    }

    public int wordRank() throws IllegalStateException, NoSuchElementException {
        if (word.length < 1 || word.length > MAX_RANKED) {
            throw new IllegalStateException("the current word has no terminal or more than 6");
        }
        countWords(word.length);
        int key = word.key(grammar.terminals);
        if (words.count(word.length, key) < 1) {
            throw new NoSuchElementException("the current word is not in the language");
        }
        return words.atLeastBefore(key, 1, word.length);
    }

    public void takeWord(int length, int rank)
            throws IllegalArgumentException, NoSuchElementException {
        checkLength(length, MAX_RANKED);
        if (rank < 0) {
            throw new IllegalArgumentException("the rank is negative");
        }
        countWords(length);
        int key = words.find(1, length, rank);
        if (key < 0) {
            throw new NoSuchElementException("the language has no word with this rank");
        }
        setWord(length, key);
    }

    public int drawWord(long seed, int length)
            throws IllegalArgumentException, NoSuchElementException {
        checkLength(length, MAX_RANKED);
        countWords(length);
        int inLanguage = words.atLeast(1, length);
        if (inLanguage < 1) {
            throw new NoSuchElementException("the language has no word of this length");
        }
        int rank = (int) draw(seed, inLanguage);
        setWord(length, words.find(1, length, rank));
        return rank;
    }

    public long drawTree(long seed, int length)
            throws IllegalArgumentException, NoSuchElementException {
        checkLength(length, MAX_WORD);
        long trees = allTrees(length);
        if (trees < 1) {
            throw new NoSuchElementException("the grammar has no tree of this length");
        }
        long number = draw(seed, trees);
        tree.size = 0;
        tree.grow(lengths, grammar.start, 0, 0, length, number);
        word.length = length;
        tree.spell(word);
        countSpans();
        tree.number = tree.findNumber(spans);
        tree.present = true;
        return number;
    }

    public int takeTree(long number) throws NoSuchElementException {
        countSpans();
        if (number < 0 || number >= spans.count(grammar.start, word.length, 0)) {
            throw new NoSuchElementException("the current word has no tree with this number");
        }
        tree.size = 0;
        tree.grow(spans, grammar.start, 0, 0, word.length, number);
        tree.number = number;
        tree.present = true;
        return tree.size;
    }

    public long treeNumber() throws IllegalStateException {
        checkTree();
        return tree.number;
    }

    public int treeSize() throws IllegalStateException {
        checkTree();
        return tree.size;
    }

    public int treeNode(int node, int what)
            throws IllegalStateException, IndexOutOfBoundsException, IllegalArgumentException {
        checkTree();
        if (node < 0 || node >= tree.size) {
            throw new IndexOutOfBoundsException("there is no such node");
        }
        switch (what) {
            case 0:
                return tree.productions[node];
            case 1:
                return tree.begins[node];
            case 2:
                return tree.lengths[node];
            default:
                throw new IllegalArgumentException("what is not from 0 to 2");
        }
    }

    public void allocate(int slot, boolean wide, int length) throws IllegalArgumentException {
        checkSlot(slot);
        if (length < 0 || length > MAX_ELEMENTS) {
            throw new IllegalArgumentException("the length is out of range");
        }
        slots.begin(slot, wide, length);
    }

    public int setElement(int slot, int index, int value)
            throws IllegalArgumentException, IllegalStateException, IndexOutOfBoundsException {
        checkSlot(slot);
        checkArray(slot);
        checkIndexes(slot, index, 1);
        int previous = slots.element(slot, index);
        slots.put(slot, index, value);
        return previous;
    }

    public void storeCounts(int slot, int index)
            throws IllegalArgumentException, IllegalStateException, IndexOutOfBoundsException {
        checkSlot(slot);
        checkArray(slot);
        checkIndexes(slot, index, MAX_RANKED);
        countWords(MAX_RANKED);
        for (int length = 1; length <= MAX_RANKED; length++) {
            slots.put(slot, index + length - 1, words.atLeast(1, length));
        }
    }

    public void loadWord(int slot, int index, int count)
            throws IllegalArgumentException, IllegalStateException, IndexOutOfBoundsException,
                    NoSuchElementException {
        checkSlot(slot);
        if (count < 0 || count > MAX_WORD) {
            throw new IllegalArgumentException("the count is out of range");
        }
        checkArray(slot);
        if (count > 0) {
            checkIndexes(slot, index, count);
        }
        for (int position = 0; position < count; position++) {
            if (!grammar.isTerminal(slots.element(slot, index + position))) {
                throw new NoSuchElementException("an element is not the number of a terminal");
            }
        }
        word.length = count;
        for (int position = 0; position < count; position++) {
            word.put(position, slots.element(slot, index + position));
        }
        tree.present = false;
    }

    public void snapshot() {
        savedGrammar.copy(grammar);
        savedWord.copy(word);
        saved = true;
    }

    public void restore() throws IllegalStateException {
        if (!saved) {
            throw new IllegalStateException("there is no snapshot");
        }
        grammar.copy(savedGrammar);
        word.copy(savedWord);
        forgetGrammar();
    }

    /** The counts by length and by word stay for as long as the productions do. */
    private void forgetGrammar() {
        lengths.forget();
        words.forget();
        tree.present = false;
    }

    private void countSpans() {
        spans.forget();
        spans.fill(word.length);
    }

    private long allTrees(int length) {
        lengths.fill(length);
        return lengths.count(grammar.start, length, 0);
    }

    private void countWords(int length) {
        lengths.fill(length);
        words.fill(length);
    }

    private void setWord(int length, int key) {
        word.set(length, key, grammar.terminals);
        tree.present = false;
    }

    private static long draw(long seed, long choices) {
        if (choices < 1) {
            return 0;
        }
        return ((seed * SEED_FACTOR + SEED_SUMMAND) >>> 1) % choices;
    }

    private void checkProduction(int production) {
        if (production < 0 || production >= grammar.productions) {
            throw new IllegalArgumentException("there is no such production");
        }
    }

    private void checkNonterminal(int nonterminal) {
        if (!grammar.isNonterminal(nonterminal)) {
            throw new IllegalArgumentException("there is no such nonterminal");
        }
    }

    private static void checkLength(int length, int most) {
        if (length < 1 || length > most) {
            throw new IllegalArgumentException("the length is out of range");
        }
    }

    private void checkTree() {
        if (!tree.present) {
            throw new IllegalStateException("there is no current tree");
        }
    }

    private static void checkSlot(int slot) {
        if (slot < 0 || slot >= MAX_SLOTS) {
            throw new IllegalArgumentException("the slot is out of range");
        }
    }

    private void checkArray(int slot) {
        if (!slots.isHeld(slot)) {
            throw new IllegalStateException("the slot is empty");
        }
    }

    /** Subtracts rather than adds, since the index may be near the greatest int. */
    private void checkIndexes(int slot, int index, int count) {
        if (index < 0 || index > slots.length(slot) - count) {
            throw new IndexOutOfBoundsException("the array does not have these indexes");
        }
    }

    /** The symbols, the productions and the start symbol. */
    private static final class Grammar {
        private int nonterminals;
        private int terminals;
        private int start;
        private int productions;
        private final int[] symbols;
        private final int[] shortest;
        private final boolean[] reached;

        private Grammar() {
            nonterminals = 1;
            terminals = 2;
            start = 0;
            productions = 0;
            symbols = new int[MAX_PRODUCTIONS * (1 + MAX_PARTS)];
            shortest = new int[MAX_NONTERMINALS];
            reached = new boolean[MAX_NONTERMINALS];
        }

        private void begin(int newNonterminals, int newTerminals) {
            nonterminals = newNonterminals;
            terminals = newTerminals;
            start = 0;
            productions = 0;
        }

        private void copy(Grammar other) {
            nonterminals = other.nonterminals;
            terminals = other.terminals;
            start = other.start;
            productions = other.productions;
            for (int index = 0; index < symbols.length && index < other.symbols.length; index++) {
                symbols[index] = other.symbols[index];
            }
        }

        private boolean isNonterminal(int code) {
            return code >= 0 && code < nonterminals && code < MAX_NONTERMINALS;
        }

        private boolean isTerminal(int number) {
            return number >= 0 && number < terminals;
        }

        private boolean isSymbol(int code) {
            return isNonterminal(code)
                    || code >= FIRST_TERMINAL && isTerminal(code - FIRST_TERMINAL);
        }

        private boolean isRightSide(int first, int second, int third) {
            if (!isSymbol(first)) {
                return false;
            }
            if (second == NO_SYMBOL) {
                return third == NO_SYMBOL && !isNonterminal(first);
            }
            return isSymbol(second) && (third == NO_SYMBOL || isSymbol(third));
        }

        /** Position 0 is the left side; there is no symbol where there is no production. */
        private int symbol(int production, int position) {
            if (production < 0 || production >= productions || production >= MAX_PRODUCTIONS
                    || position < 0 || position > MAX_PARTS) {
                return NO_SYMBOL;
            }
            return symbols[production * (1 + MAX_PARTS) + position];
        }

        private boolean holds(int left, int first, int second, int third) {
            for (int production = 0; production < productions; production++) {
                if (symbol(production, 0) == left && symbol(production, 1) == first
                        && symbol(production, 2) == second && symbol(production, 3) == third) {
                    return true;
                }
            }
            return false;
        }

        private void add(int left, int first, int second, int third) {
            if (productions < 0 || productions >= MAX_PRODUCTIONS) {
                return;
            }
            int from = productions * (1 + MAX_PARTS);
            symbols[from] = left;
            symbols[from + 1] = first;
            symbols[from + 2] = second;
            symbols[from + 3] = third;
            productions++;
        }

        private void remove(int production) {
            if (production < 0 || production >= productions || productions > MAX_PRODUCTIONS) {
                return;
            }
            int width = 1 + MAX_PARTS;
            for (int index = production * width; index < (productions - 1) * width; index++) {
                symbols[index] = symbols[index + width];
            }
            productions--;
        }

        /**
         * Finds the shortest length of each nonterminal. No nonterminal occurs twice on a path of a
         * shortest tree, so as many rounds as there are nonterminals are enough.
         */
        private void measure() {
            for (int nonterminal = 0; nonterminal < MAX_NONTERMINALS; nonterminal++) {
                shortest[nonterminal] = 0;
            }
            for (int round = 0; round < nonterminals; round++) {
                for (int production = 0; production < productions; production++) {
                    shorten(symbol(production, 0), shortestOf(production));
                }
            }
        }

        private void shorten(int nonterminal, int length) {
            if (!isNonterminal(nonterminal) || length < 1) {
                return;
            }
            if (shortest[nonterminal] == 0 || length < shortest[nonterminal]) {
                shortest[nonterminal] = length;
            }
        }

        /** As far as measured: 0 if a part has no tree. */
        private int shortestOf(int production) {
            int length = 0;
            for (int position = 1; position <= MAX_PARTS; position++) {
                int code = symbol(production, position);
                if (code != NO_SYMBOL) {
                    int part = shortestPart(code);
                    if (part == 0) {
                        return 0;
                    }
                    length += part;
                }
            }
            return length;
        }

        private int shortestPart(int code) {
            return isNonterminal(code) ? shortest[code] : 1;
        }

        /** Returns how many productions it removed. */
        private int removeUnused() {
            measure();
            reach();
            int removed = 0;
            for (int production = productions - 1; production >= 0; production--) {
                if (!isUsed(production)) {
                    remove(production);
                    removed++;
                }
            }
            return removed;
        }

        private boolean isUsed(int production) {
            int left = symbol(production, 0);
            return isNonterminal(left) && reached[left] && shortestOf(production) > 0;
        }

        /** Marks what occurs in trees of the start symbol; each round but the last adds a mark. */
        private void reach() {
            for (int nonterminal = 0; nonterminal < MAX_NONTERMINALS; nonterminal++) {
                reached[nonterminal] = nonterminal == start;
            }
            for (int round = 0; round < nonterminals; round++) {
                for (int production = 0; production < productions; production++) {
                    if (isUsed(production)) {
                        reachParts(production);
                    }
                }
            }
        }

        private void reachParts(int production) {
            for (int position = 1; position <= MAX_PARTS; position++) {
                int code = symbol(production, position);
                if (isNonterminal(code)) {
                    reached[code] = true;
                }
            }
        }
    }

    /** A word of at most 8 terminals. */
    private static final class Word {
        private int length;
        private final int[] letters;

        private Word() {
            length = 0;
            letters = new int[MAX_WORD];
        }

        private void copy(Word other) {
            length = other.length;
            for (int position = 0; position < MAX_WORD; position++) {
                letters[position] = other.letters[position];
            }
        }

        private int letter(int position) {
            return position >= 0 && position < MAX_WORD ? letters[position] : 0;
        }

        private void put(int position, int terminal) {
            if (position >= 0 && position < MAX_WORD) {
                letters[position] = terminal;
            }
        }

        /** How many words of its length come before the word. */
        private int key(int terminals) {
            int key = 0;
            for (int position = 0; position < length; position++) {
                key = key * terminals + letter(position);
            }
            return key;
        }

        /** Makes it the word of a length that has this key. */
        private void set(int newLength, int key, int terminals) {
            int base = Math.max(1, terminals);
            int rest = key;
            length = newLength;
            for (int position = newLength - 1; position >= 0; position--) {
                put(position, rest % base);
                rest /= base;
            }
        }
    }

    /**
     * The number of trees of each nonterminal for each piece. A piece has a length and, among the
     * pieces of its length, a key; the classes that extend this one say what their pieces are.
     */
    private abstract static class Counts {
        final Grammar grammar;
        private final long[] rows;
        private int filled;

        private Counts(Grammar grammar, int places) {
            this.grammar = grammar;
            rows = new long[places < 1 ? 0 : places * MAX_NONTERMINALS];
            filled = 0;
        }

        /** How many pieces of a length there are; their keys count from 0. */
        abstract int pieces(int length);

        /** The place of a piece among the pieces of all lengths. */
        abstract int place(int length, int key);

        /** The key of a part of a piece, by the number of terminals before it in the piece. */
        abstract int part(int key, int begin);

        /** Whether the piece of length 1 can be this terminal. */
        abstract boolean fits(int key, int terminal);

        /** Makes the counts of all pieces up to a length, the short ones first: they are parts. */
        final void fill(int length) {
            for (int size = filled + 1; size <= length; size++) {
                int keys = pieces(size);
                for (int key = 0; key < keys; key++) {
                    for (int code = 0; code < grammar.nonterminals; code++) {
                        long trees = 0;
                        for (int production = 0; production < grammar.productions; production++) {
                            trees += ofProduction(code, production, size, key);
                        }
                        put(code, size, key, trees);
                    }
                }
            }
            filled = Math.max(filled, length);
        }

        final void forget() {
            filled = 0;
        }

        private void put(int nonterminal, int length, int key, long trees) {
            int index = place(length, key) * MAX_NONTERMINALS + nonterminal;
            if (index >= 0 && index < rows.length) {
                rows[index] = trees;
            }
        }

        /** A symbol that a right side does not have counts once, as a part of length 0. */
        final long count(int code, int length, int key) {
            if (code == NO_SYMBOL) {
                return length == 0 ? 1 : 0;
            }
            if (length < 1) {
                return 0;
            }
            if (code >= FIRST_TERMINAL) {
                return length == 1 && fits(key, code - FIRST_TERMINAL) ? 1 : 0;
            }
            int index = place(length, key) * MAX_NONTERMINALS + code;
            return index >= 0 && index < rows.length ? rows[index] : 0;
        }

        /** The trees of a nonterminal for a piece that have this production at the root. */
        final long ofProduction(int code, int production, int length, int key) {
            if (grammar.symbol(production, 0) != code) {
                return 0;
            }
            long trees = 0;
            for (int first = 1; first <= length; first++) {
                trees += ofFirst(production, length, key, first);
            }
            return trees;
        }

        /** Those of them whose first part has this length. */
        final long ofFirst(int production, int length, int key, int first) {
            int rest = length - first;
            boolean isAlone = grammar.symbol(production, 2) == NO_SYMBOL;
            if (isAlone != (rest == 0)) {
                return 0;
            }
            long heads = count(grammar.symbol(production, 1), first, part(key, 0));
            if (heads == 0) {
                return 0;
            }
            boolean hasThird = grammar.symbol(production, 3) != NO_SYMBOL;
            int last = hasThird ? rest - 1 : rest;
            long tails = 0;
            for (int second = hasThird ? 1 : rest; second <= last; second++) {
                tails += tailsOf(production, length, key, first, second);
            }
            return heads * tails;
        }

        /** Those of them whose first two parts have these lengths. */
        final long ofSecond(int production, int length, int key, int first, int second) {
            return count(grammar.symbol(production, 1), first, part(key, 0))
                    * tailsOf(production, length, key, first, second);
        }

        /** In how many ways the second and the third part can be. */
        private long tailsOf(int production, int length, int key, int first, int second) {
            long trees = count(grammar.symbol(production, 2), second, part(key, first));
            if (trees == 0) {
                return 0;
            }
            int begin = first + second;
            return trees * count(grammar.symbol(production, 3), length - begin, part(key, begin));
        }
    }

    /** A piece is any word of a length: the counts of all trees by their lengths. */
    private static final class LengthCounts extends Counts {
        private LengthCounts(Grammar grammar) {
            super(grammar, MAX_COUNTED);
        }

        int pieces(int length) {
            return 1;
        }

        int place(int length, int key) {
            return length - 1;
        }

        int part(int key, int begin) {
            return 0;
        }

        boolean fits(int key, int terminal) {
            return true;
        }
    }

    /** A piece is a span of the current word, and its key is the position where it begins. */
    private static final class SpanCounts extends Counts {
        private final Word word;

        private SpanCounts(Grammar grammar, Word word) {
            super(grammar, MAX_WORD * MAX_WORD);
            this.word = word;
        }

        int pieces(int length) {
            return word.length - length + 1;
        }

        int place(int length, int key) {
            return (length - 1) * MAX_WORD + key;
        }

        int part(int key, int begin) {
            return key + begin;
        }

        boolean fits(int key, int terminal) {
            return key >= 0 && key < MAX_WORD && word.letters[key] == terminal;
        }
    }

    /**
     * The number of trees of each symbol for each word of at most 6 terminals. A row per symbol
     * holds the empty word, then the words of length 1 in their order, and so on. The key of a word
     * is its rank among all words of its length. There are 729 words of length 6, so they are not
     * looked at one by one: a production adds to whole stretches of a row.
     */
    private static final class WordCounts {
        private final Grammar grammar;
        private final LengthCounts lengths;
        private final long[] rows;
        private int filled;

        private WordCounts(Grammar grammar, LengthCounts lengths) {
            this.grammar = grammar;
            this.lengths = lengths;
            rows = new long[WORD_ROWS * WORD_ROW];
            filled = 0;
            // The rows of the terminals, and of the part that a right side does not have.
            for (int terminal = 0; terminal < MAX_TERMINALS; terminal++) {
                rows[(MAX_NONTERMINALS + terminal) * WORD_ROW + WORD_PLACES[1] + terminal] = 1;
            }
            rows[(WORD_ROWS - 1) * WORD_ROW] = 1;
        }

        private void forget() {
            filled = 0;
        }

        /** Makes the counts of all words up to a length, for which the lengths are filled. */
        private void fill(int length) {
            for (int size = filled + 1; size <= length; size++) {
                for (int code = 0; code < grammar.nonterminals; code++) {
                    clear(code, size);
                }
                for (int production = 0; production < grammar.productions; production++) {
                    for (int first = 1; first <= size; first++) {
                        for (int second = 0; second <= size - first; second++) {
                            if (lengths.ofSecond(production, size, 0, first, second) != 0) {
                                addWords(production, size, first, second);
                            }
                        }
                    }
                }
            }
            filled = Math.max(filled, length);
        }

        /** Where the words of a length begin for a symbol, or -1. */
        private int begin(int code, int length) {
            int row = code;
            if (code == NO_SYMBOL) {
                row = WORD_ROWS - 1;
            } else if (code >= FIRST_TERMINAL) {
                row = MAX_NONTERMINALS + code - FIRST_TERMINAL;
            }
            if (row < 0 || row >= WORD_ROWS || length < 0 || length > MAX_RANKED) {
                return -1;
            }
            return row * WORD_ROW + WORD_PLACES[length];
        }

        /** How many words of a length there are. */
        private int ofLength(int length) {
            int index = (grammar.terminals - 1) * (1 + MAX_RANKED) + length;
            if (length < 0 || length > MAX_RANKED || index < 0 || index >= POWERS.length) {
                return 0;
            }
            return POWERS[index];
        }

        private void clear(int code, int length) {
            int begin = begin(code, length);
            if (begin < 0) {
                return;
            }
            int end = begin + ofLength(length);
            for (int index = begin; index < end && index < rows.length; index++) {
                rows[index] = 0;
            }
        }

        /** Adds the trees of a production whose first two parts have these lengths. */
        private void addWords(int production, int length, int first, int second) {
            int third = length - first - second;
            int into = begin(grammar.symbol(production, 0), length);
            int heads = begin(grammar.symbol(production, 1), first);
            int middles = begin(grammar.symbol(production, 2), second);
            int tails = begin(grammar.symbol(production, 3), third);
            if (into < 0 || heads < 0 || middles < 0 || tails < 0) {
                return;
            }
            int headEnd = heads + ofLength(first);
            int middleEnd = middles + ofLength(second);
            int width = ofLength(third);
            for (int head = heads; head < headEnd && head < rows.length; head++) {
                for (int middle = middles; middle < middleEnd && middle < rows.length; middle++) {
                    if (rows[head] != 0 && rows[middle] != 0) {
                        addTimes(into, tails, width, rows[head] * rows[middle]);
                    }
                    into += width;
                }
            }
        }

        private void addTimes(int into, int from, int width, long factor) {
            if (into < 0 || from < 0 || into + width > rows.length || from + width > rows.length) {
                return;
            }
            for (int key = 0; key < width; key++) {
                rows[into + key] += factor * rows[from + key];
            }
        }

        /** How many words of a length have at least so many trees of the grammar. */
        private int atLeast(int trees, int length) {
            return atLeastBefore(ofLength(length), trees, length);
        }

        /** How many of them come before the word with the key of the end. */
        private int atLeastBefore(int end, int trees, int length) {
            int found = 0;
            for (int key = 0; key < end; key++) {
                if (count(length, key) >= trees) {
                    found++;
                }
            }
            return found;
        }

        /** The key of the word before which there are so many of them, or -1. */
        private int find(int trees, int length, int rank) {
            int keys = ofLength(length);
            int before = 0;
            for (int key = 0; key < keys; key++) {
                if (count(length, key) >= trees) {
                    if (before == rank) {
                        return key;
                    }
                    before++;
                }
            }
            return -1;
        }

        /** The trees of the grammar for a word. */
        private long count(int length, int key) {
            int index = begin(grammar.start, length) + key;
            return index >= 0 && index < rows.length ? rows[index] : 0;
        }
    }

    /** The current tree: its nodes in preorder, and what is needed to make and to number it. */
    private static final class Tree {
        private final Grammar grammar;
        private boolean present;
        private long number;
        private int size;
        private final int[] productions;
        private final int[] begins;
        private final int[] lengths;
        private final int[] firsts;
        private final int[] seconds;
        private final int[] ends;
        private final long[] numbers;

        private Tree(Grammar grammar) {
            this.grammar = grammar;
            present = false;
            number = 0;
            size = 0;
            productions = new int[MAX_NODES];
            begins = new int[MAX_NODES];
            lengths = new int[MAX_NODES];
            firsts = new int[MAX_NODES];
            seconds = new int[MAX_NODES];
            ends = new int[MAX_NODES];
            numbers = new long[MAX_NODES];
        }

        /**
         * Adds the nodes of the tree with this number among the trees of a piece. A terminal has no
         * node. The parts are shorter than the piece, so this goes at most 8 levels deep.
         */
        private void grow(Counts counts, int code, int key, int begin, int length, long rank) {
            int node = size;
            if (!grammar.isNonterminal(code) || length < 1 || node < 0 || node >= MAX_NODES) {
                return;
            }
            size++;
            begins[node] = begin;
            lengths[node] = length;
            long left = choose(counts, code, key, node, rank);
            int production = productions[node];
            int first = firsts[node];
            int second = seconds[node];
            int third = length - first - second;
            int secondKey = counts.part(key, first);
            int thirdKey = counts.part(key, first + second);
            int secondCode = grammar.symbol(production, 2);
            int thirdCode = grammar.symbol(production, 3);
            // The leftmost different part decides, so its number is the highest digit.
            long secondTrees = Math.max(1L, counts.count(secondCode, second, secondKey));
            long thirdTrees = Math.max(1L, counts.count(thirdCode, third, thirdKey));
            grow(counts, grammar.symbol(production, 1), counts.part(key, 0), begin,
                    first, left / thirdTrees / secondTrees);
            grow(counts, secondCode, secondKey, begin + first,
                    second, left / thirdTrees % secondTrees);
            grow(counts, thirdCode, thirdKey, begin + first + second, third, left % thirdTrees);
        }

        /**
         * Sets the production and the lengths of the parts of a node by the number of its tree, and
         * returns the number of the tree among those that agree with it in all this.
         */
        private long choose(Counts counts, int code, int key, int node, long rank) {
            int length = lengths[node];
            long left = rank;
            int production = 0;
            for (; production < grammar.productions - 1; production++) {
                long trees = counts.ofProduction(code, production, length, key);
                if (left < trees) {
                    break;
                }
                left -= trees;
            }
            int first = 1;
            for (; first < length; first++) {
                long trees = counts.ofFirst(production, length, key, first);
                if (left < trees) {
                    break;
                }
                left -= trees;
            }
            int second = 0;
            for (; second < length - first; second++) {
                long trees = counts.ofSecond(production, length, key, first, second);
                if (left < trees) {
                    break;
                }
                left -= trees;
            }
            productions[node] = production;
            firsts[node] = first;
            seconds[node] = second;
            return left;
        }

        /** Writes the terminals of all nodes into the word. */
        private void spell(Word word) {
            for (int node = 0; node < size && node < MAX_NODES; node++) {
                int begin = begins[node];
                spellPart(word, begin, grammar.symbol(productions[node], 1));
                begin += firsts[node];
                spellPart(word, begin, grammar.symbol(productions[node], 2));
                begin += seconds[node];
                spellPart(word, begin, grammar.symbol(productions[node], 3));
            }
        }

        private static void spellPart(Word word, int position, int code) {
            if (code >= FIRST_TERMINAL) {
                word.put(position, code - FIRST_TERMINAL);
            }
        }

        /**
         * Finds the number of the tree among the trees of its word. The nodes of the parts stand
         * behind their node, so from the last node on every part has its number before it is used.
         */
        private long findNumber(SpanCounts counts) {
            for (int node = Math.min(size, MAX_NODES) - 1; node >= 0; node--) {
                int child = node + 1;
                long digits = 0;
                for (int position = 1; position <= MAX_PARTS; position++) {
                    int code = grammar.symbol(productions[node], position);
                    if (grammar.isNonterminal(code) && child >= 0 && child < MAX_NODES) {
                        digits = digits * counts.count(code, lengths[child], begins[child])
                                + numbers[child];
                        child = ends[child];
                    }
                }
                ends[node] = child;
                numbers[node] = countBefore(counts, node) + digits;
            }
            return numbers[0];
        }

        /** The trees of a node's span that come before it by production or by lengths. */
        private long countBefore(SpanCounts counts, int node) {
            int production = productions[node];
            int code = grammar.symbol(production, 0);
            int length = lengths[node];
            int key = begins[node];
            long trees = 0;
            for (int before = 0; before < production; before++) {
                trees += counts.ofProduction(code, before, length, key);
            }
            for (int before = 1; before < firsts[node]; before++) {
                trees += counts.ofFirst(production, length, key, before);
            }
            for (int before = 0; before < seconds[node]; before++) {
                trees += counts.ofSecond(production, length, key, firsts[node], before);
            }
            return trees;
        }
    }

    /** The array slots. Shorts are held in ints, which have been narrowed. */
    private static final class Slots {
        private final boolean[] held;
        private final boolean[] wide;
        private final int[] lengths;
        private final int[] elements;

        private Slots() {
            held = new boolean[MAX_SLOTS];
            wide = new boolean[MAX_SLOTS];
            lengths = new int[MAX_SLOTS];
            elements = new int[MAX_SLOTS * MAX_ELEMENTS];
        }

        private void begin(int slot, boolean newWide, int newLength) {
            if (slot < 0 || slot >= MAX_SLOTS) {
                return;
            }
            held[slot] = true;
            wide[slot] = newWide;
            lengths[slot] = newLength;
            for (int index = 0; index < MAX_ELEMENTS; index++) {
                elements[slot * MAX_ELEMENTS + index] = 0;
            }
        }

        private boolean isHeld(int slot) {
            return slot >= 0 && slot < MAX_SLOTS && held[slot];
        }

        private int length(int slot) {
            return isHeld(slot) ? lengths[slot] : 0;
        }

        private boolean isElement(int slot, int index) {
            return isHeld(slot) && index >= 0 && index < MAX_ELEMENTS;
        }

        private int element(int slot, int index) {
            return isElement(slot, index) ? elements[slot * MAX_ELEMENTS + index] : 0;
        }

        private void put(int slot, int index, int value) {
            if (isElement(slot, index)) {
                elements[slot * MAX_ELEMENTS + index] = wide[slot] ? value : (short) value;
            }
        }
    }
}
