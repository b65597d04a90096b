/**
 * "If a method can throw several exceptions, they are checked in the order in which they are
 * listed": whenever two or more are due, the first of them is thrown, and the state stays.
 */
public final class EdgeExceptionTest {
    private static final Edge EDGE = new Edge("EdgeExceptionTest");

    public static void main(String[] args) {
        addProduction();
        productionSymbol();
        append();
        averageTrees();
        firstAmbiguous();
        wordRank();
        takeWord();
        drawWord();
        drawTree();
        treeNode();
        setElement();
        storeCounts();
        loadWordArgument();
        loadWordState();
        loadWordIndex();
        EDGE.end();
    }

    /** IllegalArgumentException, IllegalStateException: a wrong one for a full grammar. */
    private static void addProduction() {
        int[][] wrong = {
            {3, 10, -1, -1}, {-1, 10, -1, -1}, {0, 3, 0, -1}, {0, 9, 0, -1}, {0, 13, -1, -1},
            {0, -1, -1, -1}, {0, 0, 3, -1}, {0, 0, -2, -1}, {0, 0, 0, 13}, {0, 0, 0, -2},
            {0, 10, -1, 10}, {0, 0, -1, -1}, {0, 1, 2, -1}, {0, 1, 0, -1}, {2, 12, -1, -1},
            {Edge.MOST, 10, -1, -1}, {0, Edge.LEAST, 10, -1}
        };
        for (int[] p : wrong) {
            EDGE.refused("3: wrong and full", Edge::full, Edge.ARGUMENT,
                    x -> x.addProduction(p[0], p[1], p[2], p[3]));
        }
        EDGE.refused("3: full alone", Edge::full, Edge.STATE,
                x -> x.addProduction(0, 0, 0, 0));
    }

    /** IllegalArgumentException, IndexOutOfBoundsException. */
    private static void productionSymbol() {
        for (int production : new int[] {-1, 24, Edge.LEAST, Edge.MOST}) {
            for (int position : new int[] {-1, 4, Edge.LEAST, Edge.MOST}) {
                EDGE.refused("7: both", Edge::full, Edge.ARGUMENT,
                        x -> x.productionSymbol(production, position));
            }
        }
        EDGE.refused("7: both, no productions", GrammarAmbiguity::new, Edge.ARGUMENT,
                x -> x.productionSymbol(0, 4));
        EDGE.refused("7: position alone", Edge::full, Edge.INDEX,
                x -> x.productionSymbol(23, 4));
    }

    /** IllegalArgumentException, IllegalStateException: a wrong terminal for a full word. */
    private static void append() {
        for (int terminal : new int[] {-1, 3, 10, Edge.LEAST, Edge.MOST}) {
            EDGE.refused("10: both", Edge::full, Edge.ARGUMENT, x -> x.append(terminal));
        }
        EDGE.refused("10: full alone", Edge::full, Edge.STATE, x -> x.append(2));
    }

    private static final int[] NO_RANKED = {0, 7, -1, 8, 10, Edge.LEAST, Edge.MOST};

    /** IllegalArgumentException, NoSuchElementException: a wrong length and no words. */
    private static void averageTrees() {
        for (int length : NO_RANKED) {
            EDGE.refused("18: both", GrammarAmbiguity::new, Edge.ARGUMENT,
                    x -> x.averageTrees(length));
        }
        EDGE.refused("18: none", GrammarAmbiguity::new, Edge.ELEMENT, x -> x.averageTrees(6));
    }

    private static void firstAmbiguous() {
        for (int limit : NO_RANKED) {
            EDGE.refused("19: both", GrammarAmbiguity::new, Edge.ARGUMENT,
                    x -> x.firstAmbiguous(limit));
        }
        EDGE.refused("19: none", GrammarAmbiguity::new, Edge.ELEMENT, x -> x.firstAmbiguous(6));
    }

    /** IllegalStateException, NoSuchElementException: a word of 0, 7 or 8 in no language. */
    private static void wordRank() {
        for (String letters : new String[] {"", "aaaaaaa", "bbbbbbbb"}) {
            EDGE.refused("20: both", () -> {
                GrammarAmbiguity x = new GrammarAmbiguity();
                Look.write(x, letters);
                return x;
            }, Edge.STATE, x -> x.wordRank());
        }
        EDGE.refused("20: not in it alone", () -> {
            GrammarAmbiguity x = new GrammarAmbiguity();
            Look.write(x, "aaaaaa");
            return x;
        }, Edge.ELEMENT, x -> x.wordRank());
    }

    private static void takeWord() {
        for (int length : NO_RANKED) {
            EDGE.refused("21: both", GrammarAmbiguity::new, Edge.ARGUMENT,
                    x -> x.takeWord(length, 0));
            EDGE.refused("21: all three", GrammarAmbiguity::new, Edge.ARGUMENT,
                    x -> x.takeWord(length, -1));
            EDGE.refused("21: great rank", Edge::full, Edge.ARGUMENT,
                    x -> x.takeWord(length, Edge.MOST));
        }
        EDGE.refused("21: negative rank of none", GrammarAmbiguity::new, Edge.ARGUMENT,
                x -> x.takeWord(6, -1));
        EDGE.refused("21: least rank of none", GrammarAmbiguity::new, Edge.ARGUMENT,
                x -> x.takeWord(1, Edge.LEAST));
        EDGE.refused("21: none alone", GrammarAmbiguity::new, Edge.ELEMENT,
                x -> x.takeWord(6, 0));
    }

    private static void drawWord() {
        for (int length : NO_RANKED) {
            EDGE.refused("22: both", GrammarAmbiguity::new, Edge.ARGUMENT,
                    x -> x.drawWord(Long.MIN_VALUE, length));
        }
        EDGE.refused("22: none alone", GrammarAmbiguity::new, Edge.ELEMENT,
                x -> x.drawWord(Long.MIN_VALUE, 6));
    }

    private static void drawTree() {
        for (int length : new int[] {0, 9, -1, 10, 11, Edge.LEAST, Edge.MOST}) {
            EDGE.refused("23: both", GrammarAmbiguity::new, Edge.ARGUMENT,
                    x -> x.drawTree(Long.MAX_VALUE, length));
        }
        EDGE.refused("23: none alone", GrammarAmbiguity::new, Edge.ELEMENT,
                x -> x.drawTree(Long.MAX_VALUE, 8));
    }

    /** IllegalStateException, IndexOutOfBoundsException, IllegalArgumentException. */
    private static void treeNode() {
        for (int node : new int[] {-1, 15, Edge.LEAST, Edge.MOST}) {
            EDGE.refused("27: no tree, node", GrammarAmbiguity::new, Edge.STATE,
                    x -> x.treeNode(node, 0));
            for (int what : new int[] {-1, 3, Edge.LEAST, Edge.MOST}) {
                EDGE.refused("27: no tree, node, what", GrammarAmbiguity::new, Edge.STATE,
                        x -> x.treeNode(node, what));
                EDGE.refused("27: no tree, what", GrammarAmbiguity::new, Edge.STATE,
                        x -> x.treeNode(0, what));
                EDGE.refused("27: node, what", Edge::full, Edge.INDEX,
                        x -> x.treeNode(node, what));
                EDGE.refused("27: what alone", Edge::full, Edge.ARGUMENT,
                        x -> x.treeNode(14, what));
            }
        }
    }

    private static final int[] NO_SLOT = {-1, 3, Edge.LEAST, Edge.MOST};

    /** IllegalArgumentException, IllegalStateException, IndexOutOfBoundsException. */
    private static void setElement() {
        for (int index : new int[] {-1, 40, Edge.LEAST, Edge.MOST}) {
            for (int slot : NO_SLOT) {
                EDGE.refused("29: slot, index", Edge::full, Edge.ARGUMENT,
                        x -> x.setElement(slot, index, 1));
                EDGE.refused("29: slot, all empty, index", GrammarAmbiguity::new, Edge.ARGUMENT,
                        x -> x.setElement(slot, index, 1));
            }
            EDGE.refused("29: empty, index", Edge::some, Edge.STATE,
                    x -> x.setElement(2, index, 1));
            EDGE.refused("29: index alone", Edge::some, Edge.INDEX,
                    x -> x.setElement(0, index, 1));
        }
    }

    private static void storeCounts() {
        for (int index : new int[] {-1, 35, 40, Edge.LEAST, Edge.MOST}) {
            for (int slot : NO_SLOT) {
                EDGE.refused("30: slot, index", Edge::full, Edge.ARGUMENT,
                        x -> x.storeCounts(slot, index));
                EDGE.refused("30: slot, all empty, index", GrammarAmbiguity::new, Edge.ARGUMENT,
                        x -> x.storeCounts(slot, index));
            }
            EDGE.refused("30: empty, index", Edge::some, Edge.STATE,
                    x -> x.storeCounts(2, index));
            EDGE.refused("30: index alone", Edge::full, Edge.INDEX,
                    x -> x.storeCounts(0, index));
        }
    }

    /** A workbench whose slot 0 holds no terminals, and whose slot 2 is empty. */
    private static GrammarAmbiguity noTerminals() {
        GrammarAmbiguity x = Edge.some();
        for (int i = 0; i < 9; i++) {
            x.setElement(0, i, 2);
        }
        return x;
    }

    /** IllegalArgumentException before all others: by the slot, and by the count. */
    private static void loadWordArgument() {
        for (int slot : NO_SLOT) {
            EDGE.refused("31: slot, index", EdgeExceptionTest::noTerminals, Edge.ARGUMENT,
                    x -> x.loadWord(slot, -1, 1));
            EDGE.refused("31: slot, count", EdgeExceptionTest::noTerminals, Edge.ARGUMENT,
                    x -> x.loadWord(slot, -1, 9));
            EDGE.refused("31: slot, all empty", GrammarAmbiguity::new, Edge.ARGUMENT,
                    x -> x.loadWord(slot, 0, 1));
        }
        for (int count : new int[] {-1, 9, Edge.LEAST, Edge.MOST}) {
            EDGE.refused("31: count, empty", EdgeExceptionTest::noTerminals, Edge.ARGUMENT,
                    x -> x.loadWord(2, 0, count));
            EDGE.refused("31: count, empty, index", EdgeExceptionTest::noTerminals, Edge.ARGUMENT,
                    x -> x.loadWord(2, -1, count));
            EDGE.refused("31: count, index", EdgeExceptionTest::noTerminals, Edge.ARGUMENT,
                    x -> x.loadWord(0, -1, count));
            EDGE.refused("31: count, element", EdgeExceptionTest::noTerminals, Edge.ARGUMENT,
                    x -> x.loadWord(0, 0, count));
        }
    }

    /** IllegalStateException before the index. */
    private static void loadWordState() {
        for (int index : new int[] {-1, 0, 40, Edge.LEAST, Edge.MOST}) {
            for (int count : new int[] {0, 1, 8}) {
                EDGE.refused("31: empty, index", EdgeExceptionTest::noTerminals, Edge.STATE,
                        x -> x.loadWord(2, index, count));
            }
        }
    }

    /** IndexOutOfBoundsException before the elements, though those come first in the array. */
    private static void loadWordIndex() {
        for (int index : new int[] {2, 8, 9, -1, -8, Edge.LEAST, Edge.MOST}) {
            EDGE.refused("31: index, element", EdgeExceptionTest::noTerminals, Edge.INDEX,
                    x -> x.loadWord(0, index, 8));
        }
        EDGE.refused("31: element alone", EdgeExceptionTest::noTerminals, Edge.ELEMENT,
                x -> x.loadWord(0, 1, 8));
    }
}
