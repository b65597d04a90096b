import java.math.BigInteger;
import java.util.ArrayList;
import java.util.HashMap;
import java.util.List;
import java.util.Map;
import java.util.NoSuchElementException;

/**
 * The document once more, word by word and without any thrift: it writes out all trees and sorts
 * them by the order of trees, and it looks at every word. Tests compare the workbench with it.
 */
final class Model {
    /** More trees than this are not written out. */
    static final int LIMIT = 3000;

    static final class Node {
        final int production;
        final List<Object> parts;
        final String yield;

        Node(int production, List<Object> parts) {
            this.production = production;
            this.parts = parts;
            StringBuilder letters = new StringBuilder();
            for (Object part : parts) {
                letters.append(yieldOf(part));
            }
            this.yield = letters.toString();
        }
    }

    private static final class State {
        int nonterminals = 1;
        int terminals = 2;
        int start = 0;
        List<int[]> productions = new ArrayList<>();
        String word = "";

        State copy() {
            State other = new State();
            other.nonterminals = nonterminals;
            other.terminals = terminals;
            other.start = start;
            other.productions = new ArrayList<>(productions);
            other.word = word;
            return other;
        }
    }

    private State now = new State();
    private State saved = null;
    private Node tree = null;
    private final Object[] slots = new Object[3];
    private final Map<String, BigInteger> counted = new HashMap<>();

    private static String yieldOf(Object part) {
        return part instanceof Node ? ((Node) part).yield : (String) part;
    }

    private static String letter(int terminal) {
        return String.valueOf((char) ('a' + terminal));
    }

    private void grammarChanged() {
        counted.clear();
        tree = null;
    }

    private void wordChanged(String word) {
        now.word = word;
        tree = null;
    }

    private static void argument(boolean good) {
        if (!good) {
            throw new IllegalArgumentException();
        }
    }

    private static void state(boolean good) {
        if (!good) {
            throw new IllegalStateException();
        }
    }

    private static void index(boolean good) {
        if (!good) {
            throw new IndexOutOfBoundsException();
        }
    }

    private static void element(boolean good) {
        if (!good) {
            throw new NoSuchElementException();
        }
    }

    // The numbers of trees, of a length or of a word.

    /** The trees of a nonterminal for a text, in which a question mark stands for any terminal. */
    private BigInteger count(int symbol, String text) {
        if (symbol >= 10) {
            boolean same = text.equals("?") || text.equals(letter(symbol - 10));
            return same ? BigInteger.ONE : BigInteger.ZERO;
        }
        String key = symbol + text;
        BigInteger known = counted.get(key);
        if (known == null) {
            known = BigInteger.ZERO;
            for (int[] production : now.productions) {
                if (production[0] == symbol) {
                    known = known.add(countRight(production, 1, text));
                }
            }
            counted.put(key, known);
        }
        return known;
    }

    private BigInteger countRight(int[] production, int position, String text) {
        if (position == 4 || production[position] == -1) {
            return text.isEmpty() ? BigInteger.ONE : BigInteger.ZERO;
        }
        BigInteger sum = BigInteger.ZERO;
        int behind = 0;
        for (int i = position + 1; i < 4; i++) {
            behind += production[i] == -1 ? 0 : 1;
        }
        for (int cut = 1; cut <= text.length() - behind; cut++) {
            BigInteger head = count(production[position], text.substring(0, cut));
            if (head.signum() != 0) {
                sum = sum.add(head.multiply(
                        countRight(production, position + 1, text.substring(cut))));
            }
        }
        return sum;
    }

    private BigInteger countLength(int length) {
        return count(now.start, "?".repeat(length));
    }

    boolean canWriteOut(int length) {
        return length < 1 || length > 8
                || countLength(length).compareTo(BigInteger.valueOf(LIMIT)) <= 0;
    }

    boolean canWriteOutWord() {
        return treesOf(now.word).compareTo(BigInteger.valueOf(LIMIT)) <= 0;
    }

    private BigInteger treesOf(String word) {
        return word.isEmpty() ? BigInteger.ZERO : count(now.start, word);
    }

    // The trees, written out.

    private List<Node> write(int symbol, String text) {
        List<Node> all = new ArrayList<>();
        // From the last production on, so that only the sorting can bring them into their order.
        for (int i = now.productions.size() - 1; i >= 0; i--) {
            if (now.productions.get(i)[0] == symbol) {
                for (List<Object> parts : writeRight(now.productions.get(i), 1, text)) {
                    all.add(new Node(i, parts));
                }
            }
        }
        all.sort(Model::compare);
        return all;
    }

    private List<List<Object>> writeRight(int[] production, int position, String text) {
        List<List<Object>> all = new ArrayList<>();
        if (position == 4 || production[position] == -1) {
            if (text.isEmpty()) {
                all.add(new ArrayList<>());
            }
            return all;
        }
        for (int cut = text.length(); cut >= 1; cut--) {
            if (countRight(production, position + 1, text.substring(cut)).signum() == 0) {
                continue;
            }
            for (Object head : writePart(production[position], text.substring(0, cut))) {
                for (List<Object> tail
                        : writeRight(production, position + 1, text.substring(cut))) {
                    List<Object> parts = new ArrayList<>();
                    parts.add(head);
                    parts.addAll(tail);
                    all.add(parts);
                }
            }
        }
        return all;
    }

    private List<Object> writePart(int symbol, String text) {
        if (count(symbol, text).signum() == 0) {
            return new ArrayList<>();
        }
        return symbol >= 10
                ? new ArrayList<>(List.of(letter(symbol - 10)))
                : new ArrayList<>(write(symbol, text));
    }

    static int compare(Node a, Node b) {
        if (a.production != b.production) {
            return Integer.compare(a.production, b.production);
        }
        for (int i = 0; i < a.parts.size(); i++) {
            int one = yieldOf(a.parts.get(i)).length();
            int other = yieldOf(b.parts.get(i)).length();
            if (one != other) {
                return Integer.compare(one, other);
            }
        }
        for (int i = 0; i < a.parts.size(); i++) {
            if (a.parts.get(i) instanceof Node) {
                int order = compare((Node) a.parts.get(i), (Node) b.parts.get(i));
                if (order != 0) {
                    return order;
                }
            }
        }
        return 0;
    }

    private static void nodes(Node node, int begin, List<int[]> all) {
        all.add(new int[] {node.production, begin, node.yield.length()});
        int at = begin;
        for (Object part : node.parts) {
            if (part instanceof Node) {
                nodes((Node) part, at, all);
            }
            at += yieldOf(part).length();
        }
    }

    private List<int[]> nodes() {
        List<int[]> all = new ArrayList<>();
        nodes(tree, 0, all);
        return all;
    }

    // All words of a length, in their order.

    private List<String> words(int length) {
        List<String> all = new ArrayList<>(List.of(""));
        for (int i = 0; i < length; i++) {
            List<String> longer = new ArrayList<>();
            for (String word : all) {
                for (int terminal = 0; terminal < now.terminals; terminal++) {
                    longer.add(word + letter(terminal));
                }
            }
            all = longer;
        }
        return all;
    }

    private List<String> language(int length) {
        List<String> all = new ArrayList<>();
        for (String word : words(length)) {
            if (treesOf(word).signum() > 0) {
                all.add(word);
            }
        }
        return all;
    }

    private int unambiguous(int length) {
        int all = 0;
        for (String word : words(length)) {
            all += treesOf(word).equals(BigInteger.ONE) ? 1 : 0;
        }
        return all;
    }

    // The face.

    void reset(int nonterminals, int terminals) {
        argument(nonterminals >= 1 && nonterminals <= 6);
        argument(terminals >= 1 && terminals <= 3);
        now = new State();
        now.nonterminals = nonterminals;
        now.terminals = terminals;
        grammarChanged();
    }

    private boolean isSymbol(int code) {
        return code >= 0 && code < now.nonterminals
                || code >= 10 && code < 10 + now.terminals;
    }

    int addProduction(int left, int first, int second, int third) {
        argument(left >= 0 && left < now.nonterminals);
        argument(isSymbol(first));
        argument(second == -1 || isSymbol(second));
        argument(third == -1 || isSymbol(third));
        argument(second != -1 || third == -1);
        argument(second != -1 || first >= 10);
        for (int[] other : now.productions) {
            argument(other[0] != left || other[1] != first || other[2] != second
                    || other[3] != third);
        }
        state(now.productions.size() < 24);
        now.productions.add(new int[] {left, first, second, third});
        grammarChanged();
        return now.productions.size() - 1;
    }

    int removeProduction(int production) {
        argument(production >= 0 && production < now.productions.size());
        now.productions.remove(production);
        grammarChanged();
        return now.productions.size();
    }

    /** A production is in a tree if, written with a mark, it can still be had from the start. */
    int removeUseless() {
        List<int[]> kept = new ArrayList<>();
        for (int[] production : now.productions) {
            if (hasTree(production) && isReached(production[0])) {
                kept.add(production);
            }
        }
        int removed = now.productions.size() - kept.size();
        now.productions = kept;
        grammarChanged();
        return removed;
    }

    private boolean hasTree(int[] production) {
        for (int i = 1; i < 4; i++) {
            if (production[i] >= 0 && production[i] < 10 && shortest(production[i]) == 0) {
                return false;
            }
        }
        return true;
    }

    private boolean isReached(int nonterminal) {
        List<Integer> reached = new ArrayList<>(List.of(now.start));
        for (int i = 0; i < reached.size(); i++) {
            for (int[] production : now.productions) {
                if (production[0] == reached.get(i) && hasTree(production)) {
                    for (int j = 1; j < 4; j++) {
                        if (production[j] >= 0 && production[j] < 10
                                && !reached.contains(production[j])) {
                            reached.add(production[j]);
                        }
                    }
                }
            }
        }
        return reached.contains(nonterminal);
    }

    int productionCount() {
        return now.productions.size();
    }

    int productionSymbol(int production, int position) {
        argument(production >= 0 && production < now.productions.size());
        index(position >= 0 && position <= 3);
        return now.productions.get(production)[position];
    }

    int setStart(int nonterminal) {
        argument(nonterminal >= 0 && nonterminal < now.nonterminals);
        int previous = now.start;
        now.start = nonterminal;
        grammarChanged();
        return previous;
    }

    /** The least length up to 729, the most that 6 nonterminals can need, that has a tree. */
    private int shortest(int nonterminal) {
        boolean[][] has = new boolean[now.nonterminals][730];
        for (int length = 1; length < 730; length++) {
            for (int[] production : now.productions) {
                if (lengths(has, production, 1, length)) {
                    has[production[0]][length] = true;
                    if (production[0] == nonterminal) {
                        return length;
                    }
                }
            }
        }
        return 0;
    }

    private static boolean lengths(boolean[][] has, int[] production, int position, int length) {
        if (position == 4 || production[position] == -1) {
            return length == 0;
        }
        boolean isLast = position == 3 || production[position + 1] == -1;
        for (int part = isLast ? Math.max(1, length) : 1; part <= length; part++) {
            int symbol = production[position];
            boolean fits = symbol >= 10 ? part == 1 : has[symbol][part];
            if (fits && lengths(has, production, position + 1, length - part)) {
                return true;
            }
        }
        return false;
    }

    int shortestLength(int nonterminal) {
        argument(nonterminal >= 0 && nonterminal < now.nonterminals);
        return shortest(nonterminal);
    }

    int append(int terminal) {
        argument(terminal >= 0 && terminal < now.terminals);
        state(now.word.length() < 8);
        wordChanged(now.word + letter(terminal));
        return now.word.length();
    }

    int clearWord() {
        int previous = now.word.length();
        wordChanged("");
        return previous;
    }

    int wordLength() {
        return now.word.length();
    }

    int terminalAt(int position) {
        index(position >= 0 && position < now.word.length());
        return now.word.charAt(position) - 'a';
    }

    long treeCount() {
        return treesOf(now.word).longValueExact();
    }

    long treesOfLength(int length) {
        argument(length >= 1 && length <= 10);
        return countLength(length).longValueExact();
    }

    int wordsOfLength(int length, int trees) {
        argument(length >= 1 && length <= 6);
        argument(trees >= 0 && trees <= 3);
        int all = words(length).size();
        int in = language(length).size();
        int one = unambiguous(length);
        return new int[] {all - in, one, in - one, in}[trees];
    }

    double unambiguousShare(int length) {
        argument(length >= 1 && length <= 6);
        int in = language(length).size();
        return in == 0 ? 1.0 : (double) unambiguous(length) / (double) in;
    }

    double averageTrees(int length) {
        argument(length >= 1 && length <= 6);
        int in = language(length).size();
        element(in > 0);
        return (double) countLength(length).longValueExact() / (double) in;
    }

    int firstAmbiguous(int limit) {
        argument(limit >= 1 && limit <= 6);
        for (int length = 1; length <= limit; length++) {
            for (String word : words(length)) {
                if (treesOf(word).compareTo(BigInteger.TWO) >= 0) {
                    wordChanged(word);
                    return length;
                }
            }
        }
        throw new NoSuchElementException();
    }

    int wordRank() {
        state(now.word.length() >= 1 && now.word.length() <= 6);
        int rank = language(now.word.length()).indexOf(now.word);
        element(rank >= 0);
        return rank;
    }

    void takeWord(int length, int rank) {
        argument(length >= 1 && length <= 6);
        argument(rank >= 0);
        List<String> language = language(length);
        element(rank < language.size());
        wordChanged(language.get(rank));
    }

    /** In exact arithmetic: y modulo 2 to the 64, then half of it. */
    private static BigInteger half(long seed) {
        BigInteger all = BigInteger.ONE.shiftLeft(64);
        BigInteger y = BigInteger.valueOf(seed)
                .multiply(BigInteger.valueOf(6364136223846793005L))
                .add(BigInteger.valueOf(1442695040888963407L));
        return y.mod(all).shiftRight(1);
    }

    int drawWord(long seed, int length) {
        argument(length >= 1 && length <= 6);
        List<String> language = language(length);
        element(!language.isEmpty());
        int rank = half(seed).mod(BigInteger.valueOf(language.size())).intValueExact();
        wordChanged(language.get(rank));
        return rank;
    }

    long drawTree(long seed, int length) {
        argument(length >= 1 && length <= 8);
        List<Node> all = write(now.start, "?".repeat(length));
        element(!all.isEmpty());
        int number = half(seed).mod(BigInteger.valueOf(all.size())).intValueExact();
        tree = all.get(number);
        now.word = tree.yield;
        return number;
    }

    int takeTree(long number) {
        element(number >= 0 && BigInteger.valueOf(number).compareTo(treesOf(now.word)) < 0);
        tree = write(now.start, now.word).get((int) number);
        return nodes().size();
    }

    long treeNumber() {
        state(tree != null);
        List<Node> all = write(now.start, now.word);
        for (int i = 0; i < all.size(); i++) {
            if (compare(all.get(i), tree) == 0) {
                return i;
            }
        }
        return -1;
    }

    int treeSize() {
        state(tree != null);
        return nodes().size();
    }

    int treeNode(int node, int what) {
        state(tree != null);
        index(node >= 0 && node < nodes().size());
        argument(what >= 0 && what <= 2);
        return nodes().get(node)[what];
    }

    void allocate(int slot, boolean wide, int length) {
        argument(slot >= 0 && slot <= 2);
        argument(length >= 0 && length <= 40);
        slots[slot] = wide ? new int[length] : new short[length];
    }

    private int slotLength(int slot) {
        return slots[slot] instanceof int[]
                ? ((int[]) slots[slot]).length : ((short[]) slots[slot]).length;
    }

    private int get(int slot, int index) {
        return slots[slot] instanceof int[]
                ? ((int[]) slots[slot])[index] : ((short[]) slots[slot])[index];
    }

    private void set(int slot, int index, int value) {
        if (slots[slot] instanceof int[]) {
            ((int[]) slots[slot])[index] = value;
        } else {
            ((short[]) slots[slot])[index] = (short) value;
        }
    }

    int setElement(int slot, int index, int value) {
        argument(slot >= 0 && slot <= 2);
        state(slots[slot] != null);
        index(index >= 0 && index < slotLength(slot));
        int previous = get(slot, index);
        set(slot, index, value);
        return previous;
    }

    void storeCounts(int slot, int index) {
        argument(slot >= 0 && slot <= 2);
        state(slots[slot] != null);
        index(index >= 0 && (long) index + 6 <= slotLength(slot));
        for (int length = 1; length <= 6; length++) {
            set(slot, index + length - 1, language(length).size());
        }
    }

    void loadWord(int slot, int index, int count) {
        argument(slot >= 0 && slot <= 2);
        argument(count >= 0 && count <= 8);
        state(slots[slot] != null);
        index(count == 0 || index >= 0 && (long) index + count <= slotLength(slot));
        StringBuilder word = new StringBuilder();
        for (int i = 0; i < count; i++) {
            int terminal = get(slot, index + i);
            element(terminal >= 0 && terminal < now.terminals);
            word.append(letter(terminal));
        }
        wordChanged(word.toString());
    }

    void snapshot() {
        saved = now.copy();
    }

    void restore() {
        state(saved != null);
        now = saved.copy();
        grammarChanged();
    }
}
