/** Promises 28 to 33: the array slots and the snapshot. */
public final class ArrayTest {
    private static final Class<?> ARGUMENT = IllegalArgumentException.class;
    private static final Class<?> STATE = IllegalStateException.class;
    private static final Class<?> INDEX = IndexOutOfBoundsException.class;
    private static final Class<?> ELEMENT = java.util.NoSuchElementException.class;
    private static final int LEAST = Integer.MIN_VALUE;
    private static final int MOST = Integer.MAX_VALUE;
    private static final Check CHECK = new Check("ArrayTest");

    public static void main(String[] args) {
        allocate();
        setElement();
        storeCounts();
        loadWord();
        loadWordRefused();
        snapshot();
        restore();
        CHECK.end();
    }

    private static void allocate() {
        GrammarAmbiguity x = new GrammarAmbiguity();
        x.allocate(0, true, 40);
        CHECK.due("28: 40", Look.slot(x, 0), "0 ".repeat(40));
        x.setElement(0, 39, 5);
        x.setElement(0, 0, 6);
        int[][] wrong = {{-1, 1}, {3, 1}, {LEAST, 1}, {MOST, 1}, {0, -1}, {0, 41}, {0, LEAST},
            {0, MOST}, {3, 41}};
        for (int[] pair : wrong) {
            CHECK.refused("28: " + pair[0] + ", " + pair[1], x, ARGUMENT,
                    Check.call(() -> x.allocate(pair[0], false, pair[1])));
        }
        x.allocate(0, false, 3);
        CHECK.due("28: a new one", Look.slot(x, 0), "0 0 0 ");
        x.allocate(0, true, 40);
        CHECK.due("28: filled with 0", Look.slot(x, 0), "0 ".repeat(40));
        x.allocate(2, true, 0);
        CHECK.due("28: no elements", Look.slot(x, 2), "throws.IndexOutOfBoundsException");
        CHECK.due("28: still empty", Look.slot(x, 1), "throws.IllegalStateException");
    }

    private static void setElement() {
        GrammarAmbiguity x = new GrammarAmbiguity();
        x.allocate(0, false, 4);
        x.allocate(1, true, 4);
        int[] values = {1, -1, 32767, 32768, -32769, 65535, 65536, 70000, MOST, LEAST};
        for (int value : values) {
            x.setElement(0, 3, value);
            x.setElement(1, 3, value);
            CHECK.due("29: short " + value, x.setElement(0, 3, 0), (int) (short) value);
            CHECK.due("29: int " + value, x.setElement(1, 3, 0), value);
        }
        x.setElement(0, 0, 9);
        CHECK.due("29: one element", Look.slot(x, 0), "9 0 0 0 ");
        CHECK.due("29: of one slot", Look.slot(x, 1), "0 0 0 0 ");
        for (int slot : new int[] {-1, 3, LEAST, MOST}) {
            CHECK.refused("29: slot " + slot, x, ARGUMENT, () -> x.setElement(slot, 9, 1));
        }
        CHECK.refused("29: empty", x, STATE, () -> x.setElement(2, 0, 1));
        CHECK.refused("29: empty before index", x, STATE, () -> x.setElement(2, -1, 1));
        for (int index : new int[] {-1, 4, 39, 40, LEAST, MOST}) {
            CHECK.refused("29: index " + index, x, INDEX, () -> x.setElement(1, index, 1));
        }
    }

    private static void storeCounts() {
        GrammarAmbiguity x = Look.bench(1, 3, 0, 0, 0, -1, 0, 10, -1, -1, 0, 11, -1, -1,
                0, 12, -1, -1);
        x.allocate(0, true, 8);
        x.allocate(1, false, 6);
        x.allocate(2, true, 5);
        for (int i = 0; i < 8; i++) {
            x.setElement(0, i, -7);
        }
        x.drawTree(1, 4);
        String tree = Look.tree(x);
        x.storeCounts(0, 1);
        CHECK.due("30: from 1 on", Look.slot(x, 0), "-7 3 9 27 81 243 729 -7 ");
        x.storeCounts(0, 2);
        CHECK.due("30: from 2 on", Look.slot(x, 0), "-7 3 3 9 27 81 243 729 ");
        x.storeCounts(1, 0);
        CHECK.due("30: shorts", Look.slot(x, 1), "3 9 27 81 243 729 ");
        CHECK.due("30: the tree stays", Look.tree(x), tree);
        for (int index : new int[] {-1, 3, 7, 8, LEAST, MOST, MOST - 4}) {
            CHECK.refused("30: index " + index, x, INDEX,
                    Check.call(() -> x.storeCounts(0, index)));
        }
        CHECK.refused("30: too short", x, INDEX, Check.call(() -> x.storeCounts(2, 0)));
        CHECK.refused("30: just before", x, INDEX, Check.call(() -> x.storeCounts(1, -1)));
        for (int slot : new int[] {-1, 3, LEAST, MOST}) {
            CHECK.refused("30: slot", x, ARGUMENT, Check.call(() -> x.storeCounts(slot, -1)));
        }
        x.removeProduction(0);
        x.storeCounts(1, 0);
        CHECK.due("30: the language of now", Look.slot(x, 1), "3 0 0 0 0 0 ");
        GrammarAmbiguity y = new GrammarAmbiguity();
        CHECK.refused("30: empty", y, STATE, Check.call(() -> y.storeCounts(0, -1)));
        y.allocate(0, true, 6);
        y.storeCounts(0, 0);
        CHECK.due("30: no words", Look.slot(y, 0), "0 0 0 0 0 0 ");
        // Each word counts once, however many trees it has.
        y.addProduction(0, 10, -1, -1);
        y.addProduction(0, 0, 0, -1);
        y.storeCounts(0, 0);
        CHECK.due("30: ambiguous words", Look.slot(y, 0), "1 1 1 1 1 1 ");
    }

    private static void loadWord() {
        GrammarAmbiguity x = Look.pairs();
        x.allocate(0, true, 10);
        x.allocate(1, false, 10);
        for (int i = 0; i < 10; i++) {
            x.setElement(0, i, i % 2);
            x.setElement(1, i, (i + 1) % 2);
        }
        Look.write(x, "aaa");
        x.takeTree(1);
        x.loadWord(0, 1, 4);
        CHECK.due("31: ints", Look.word(x), "baba");
        CHECK.due("31: the tree is gone", Look.tree(x), "");
        CHECK.due("31: trees", x.treeCount(), 5L);
        x.loadWord(1, 2, 8);
        CHECK.due("31: shorts", Look.word(x), "babababa");
        x.loadWord(0, 9, 1);
        CHECK.due("31: the last", Look.word(x), "b");
        x.setElement(0, 9, 0);
        CHECK.due("31: a copy", Look.word(x), "b");
        for (int index : new int[] {0, 10, 11, -1, LEAST, MOST}) {
            Look.write(x, "ab");
            x.takeTree(0);
            x.loadWord(0, index, 0);
            CHECK.due("31: nothing from " + index, Look.word(x), "");
            CHECK.due("31: the tree is gone then", Look.tree(x), "");
        }
        x.setElement(1, 0, 65537);
        x.loadWord(1, 0, 1);
        CHECK.due("31: narrowed before", Look.word(x), "b");
    }

    private static void loadWordRefused() {
        GrammarAmbiguity x = Look.pairs();
        x.allocate(0, true, 9);
        x.setElement(0, 8, 2);
        x.setElement(0, 7, -1);
        Look.write(x, "aaa");
        x.takeTree(1);
        for (int slot : new int[] {-1, 3, LEAST, MOST}) {
            CHECK.refused("31: slot " + slot, x, ARGUMENT,
                    Check.call(() -> x.loadWord(slot, 0, 1)));
        }
        for (int count : new int[] {-1, 9, LEAST, MOST}) {
            CHECK.refused("31: count " + count, x, ARGUMENT,
                    Check.call(() -> x.loadWord(0, 0, count)));
            CHECK.refused("31: count before slot", x, ARGUMENT,
                    Check.call(() -> x.loadWord(1, 0, count)));
        }
        CHECK.refused("31: empty", x, STATE, Check.call(() -> x.loadWord(1, 0, 0)));
        CHECK.refused("31: empty before index", x, STATE,
                Check.call(() -> x.loadWord(1, -1, 1)));
        int[][] wrong = {{-1, 1}, {9, 1}, {2, 8}, {LEAST, 1}, {MOST, 1}, {MOST, 8}, {-1, 8},
            {8, 2}};
        for (int[] pair : wrong) {
            CHECK.refused("31: " + pair[0] + ", " + pair[1], x, INDEX,
                    Check.call(() -> x.loadWord(0, pair[0], pair[1])));
        }
        CHECK.refused("31: too great", x, ELEMENT, Check.call(() -> x.loadWord(0, 8, 1)));
        CHECK.refused("31: negative", x, ELEMENT, Check.call(() -> x.loadWord(0, 7, 1)));
        CHECK.refused("31: behind good ones", x, ELEMENT, Check.call(() -> x.loadWord(0, 0, 8)));
        x.setElement(0, 0, 10);
        CHECK.refused("31: a code", x, ELEMENT, Check.call(() -> x.loadWord(0, 0, 1)));
        CHECK.due("31: the tree stays", x.treeNumber(), 1L);
    }

    private static void snapshot() {
        GrammarAmbiguity x = Look.bench(3, 3, 1, 1, 1, -1, 1, 10, -1, -1, 1, 12, -1, -1);
        x.setStart(1);
        Look.write(x, "aca");
        x.takeTree(1);
        x.snapshot();
        CHECK.due("32: the tree stays", x.treeNumber(), 1L);
        x.allocate(0, true, 2);
        x.setElement(0, 1, 4);
        x.reset(1, 1);
        x.addProduction(0, 10, -1, -1);
        Look.write(x, "aaaa");
        x.addProduction(0, 0, 0, -1);
        x.takeTree(2);
        x.restore();
        CHECK.due("33: grammar", Look.grammar(x), "1 1 1 -1; 1 10 -1 -1; 1 12 -1 -1");
        CHECK.due("33: word", Look.word(x), "aca");
        CHECK.due("33: the tree is gone", Look.tree(x), "");
        CHECK.due("33: arrays stay", Look.slot(x, 0), "0 4 ");
        CHECK.due("33: trees", x.treeCount(), 2L);
        CHECK.due("33: words", x.wordsOfLength(3, 2), 8);
        CHECK.due("33: nonterminals", Check.answer(() -> x.shortestLength(2)), "0");
        CHECK.refused("33: no more nonterminals", x, ARGUMENT, () -> x.shortestLength(3));
        CHECK.due("33: terminals", x.append(2), 4);
        CHECK.due("33: start", x.setStart(0), 1);
    }

    private static void restore() {
        GrammarAmbiguity x = Look.pairs();
        x.drawTree(1, 3);
        CHECK.refused("33: none", x, STATE, Check.call(() -> x.restore()));
        x.snapshot();
        String word = Look.word(x);
        x.restore();
        CHECK.due("33: at once", Look.word(x), word);
        CHECK.due("33: the tree is gone even so", Look.tree(x), "");
        x.removeProduction(0);
        x.clearWord();
        x.restore();
        CHECK.due("33: again", Look.word(x), word);
        CHECK.due("33: again, grammar", x.productionCount(), 3);
        // What changes behind restore does not change the snapshot.
        x.append(0);
        x.removeProduction(2);
        x.setStart(0);
        x.restore();
        CHECK.due("33: and again", Look.word(x), word);
        CHECK.due("33: and again, grammar", Look.grammar(x), "0 0 0 -1; 0 10 -1 -1; 0 11 -1 -1");
        x.clearWord();
        x.removeProduction(1);
        x.snapshot();
        x.append(1);
        x.addProduction(0, 10, 10, -1);
        x.restore();
        CHECK.due("32: the later one", Look.word(x), "");
        CHECK.due("32: the later one's grammar", Look.grammar(x), "0 0 0 -1; 0 11 -1 -1");
        CHECK.due("32: counts", x.wordsOfLength(2, 3), 1);
    }
}
