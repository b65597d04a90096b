/** Promises 23 to 27: each sentence that names a boundary case, with a test of its own. */
public final class EdgeTreeTest {
    private static final Edge EDGE = new Edge("EdgeTreeTest");

    public static void main(String[] args) {
        drawLength();
        drawOfNoTrees();
        drawOfOneTree();
        drawFirstAndLast();
        drawEachInOrder();
        drawSeeds();
        drawReplacesWordAndTree();
        takeFirstAndLast();
        takeNumber();
        takeOfEmptyWord();
        takeOfWordNotInLanguage();
        takeReplacesTheTree();
        takeReturnsTheSize();
        numberOfNoTree();
        numberFromZero();
        numberAmongTreesOfTheWord();
        numberOfDrawnTrees();
        sizeOfNoTree();
        sizeLeastAndGreatest();
        nodeOfNoTree();
        nodeRange();
        whatRange();
        nodeBeginsAndLengths();
        EDGE.end();
    }

    /** S -> SS | a | b. */
    private static GrammarAmbiguity pairs() {
        GrammarAmbiguity x = Look.pairs();
        Look.write(x, "abab");
        x.takeTree(2);
        return x;
    }

    /** S -> aSb | ab: trees of even lengths alone. */
    private static GrammarAmbiguity even() {
        GrammarAmbiguity x = Look.bench(1, 2, 0, 10, 0, 11, 0, 10, 11, -1);
        Look.write(x, "aabb");
        x.takeTree(0);
        return x;
    }

    private static Edge.Make written(Edge.Make make, String letters) {
        return () -> {
            GrammarAmbiguity x = make.make();
            Look.write(x, letters);
            return x;
        };
    }

    // Promise 23.

    /** "the length, 1 to 8". */
    private static void drawLength() {
        for (Edge.Make make : new Edge.Make[] {Edge::some, Edge::full, EdgeTreeTest::pairs}) {
            EDGE.range("23: length", make, 1, 8, Edge.ARGUMENT, (x, n) -> x.drawTree(5, n));
        }
        EDGE.refused("23: of 9, which has trees", Edge::full, Edge.ARGUMENT,
                x -> x.drawTree(Long.MAX_VALUE, 9));
        EDGE.refused("23: of 10, which has trees", Edge::full, Edge.ARGUMENT,
                x -> x.drawTree(Long.MIN_VALUE, 10));
    }

    /** "if the grammar has no tree of this length". */
    private static void drawOfNoTrees() {
        for (long seed : new long[] {0, -1, Long.MIN_VALUE, Long.MAX_VALUE}) {
            for (int i = 1; i <= 8; i++) {
                int length = i;
                EDGE.refused("23: no grammar", GrammarAmbiguity::new, Edge.ELEMENT,
                        x -> x.drawTree(seed, length));
                if (length % 2 == 0) {
                    EDGE.taken("23: of " + length, EdgeTreeTest::even,
                            x -> x.drawTree(seed, length));
                } else {
                    EDGE.refused("23: of " + length, EdgeTreeTest::even, Edge.ELEMENT,
                            x -> x.drawTree(seed, length));
                }
            }
        }
    }

    private static void drawOfOneTree() {
        String[] trees = {"1@0+2", "0@0+4 1@1+2", "0@0+6 0@1+4 1@2+2",
            "0@0+8 0@1+6 0@2+4 1@3+2"};
        String[] words = {"ab", "aabb", "aaabbb", "aaaabbbb"};
        for (long seed : new long[] {0, 1, -1, Long.MIN_VALUE, Long.MAX_VALUE}) {
            for (int i = 0; i < 4; i++) {
                GrammarAmbiguity x = even();
                EDGE.due("23: the only one", x.drawTree(seed, 2 * i + 2), 0L);
                EDGE.due("23: its nodes", Look.tree(x), trees[i]);
                EDGE.due("23: its yield", Look.word(x), words[i]);
                EDGE.due("25: its number", x.treeNumber(), 0L);
            }
        }
    }

    /** "Returns the number of trees before it": 0 for the first, one less than all for the last. */
    private static void drawFirstAndLast() {
        GrammarAmbiguity x = Edge.full();
        EDGE.due("23: first of 8", x.drawTree(Edge.seedFor(0), 8), 0L);
        long last = 772861865472L - 1;
        EDGE.due("23: last of 8", x.drawTree(Edge.seedFor(2 * last), 8), last);
        EDGE.due("23: last of 8, odd y", x.drawTree(Edge.seedFor(2 * last + 1), 8), last);
        EDGE.due("23: over the last", x.drawTree(Edge.seedFor(2 * last + 2), 8), 0L);
        EDGE.due("23: first of 1", x.drawTree(Edge.seedFor(1), 1), 0L);
        // The productions of 0 with one terminal: 14 is b, 16 is a, 19 is c.
        String[] nodes = {"14@0+1", "16@0+1", "19@0+1"};
        String[] words = {"b", "a", "c"};
        for (int i = 0; i < 3; i++) {
            EDGE.due("23: of 1", x.drawTree(Edge.seedFor(2 * i), 1), (long) i);
            EDGE.due("23: node", Look.tree(x), nodes[i]);
            EDGE.due("23: yield", Look.word(x), words[i]);
        }
    }

    /** "In the order of the trees of the grammar with this length". */
    private static void drawEachInOrder() {
        GrammarAmbiguity x = Look.bench(1, 2, 0, 11, -1, -1, 0, 0, 0, -1, 0, 10, -1, -1);
        String[] trees = {
            "1@0+3 0@0+1 1@1+2 0@1+1 0@2+1", "1@0+3 0@0+1 1@1+2 0@1+1 2@2+1",
            "1@0+3 0@0+1 1@1+2 2@1+1 0@2+1", "1@0+3 0@0+1 1@1+2 2@1+1 2@2+1",
            "1@0+3 2@0+1 1@1+2 0@1+1 0@2+1", "1@0+3 2@0+1 1@1+2 0@1+1 2@2+1",
            "1@0+3 2@0+1 1@1+2 2@1+1 0@2+1", "1@0+3 2@0+1 1@1+2 2@1+1 2@2+1",
            "1@0+3 1@0+2 0@0+1 0@1+1 0@2+1", "1@0+3 1@0+2 0@0+1 0@1+1 2@2+1",
            "1@0+3 1@0+2 0@0+1 2@1+1 0@2+1", "1@0+3 1@0+2 0@0+1 2@1+1 2@2+1",
            "1@0+3 1@0+2 2@0+1 0@1+1 0@2+1", "1@0+3 1@0+2 2@0+1 0@1+1 2@2+1",
            "1@0+3 1@0+2 2@0+1 2@1+1 0@2+1", "1@0+3 1@0+2 2@0+1 2@1+1 2@2+1"
        };
        String[] words = {"bbb", "bba", "bab", "baa", "abb", "aba", "aab", "aaa"};
        for (int i = 0; i < 16; i++) {
            EDGE.due("23: before", x.drawTree(Edge.seedFor(2 * i), 3), (long) i);
            EDGE.due("23: nodes", Look.tree(x), trees[i]);
            EDGE.due("23: yield", Look.word(x), words[i % 8]);
            EDGE.due("25: number", x.treeNumber(), (long) (i / 8));
        }
        EDGE.due("23: round again", x.drawTree(Edge.seedFor(32), 3), 0L);
    }

    /** "where y is as for drawWord": in long arithmetic with overflow, halved by >>>. */
    private static void drawSeeds() {
        long trees = 772861865472L;
        for (long[] row : Edge.HALVES) {
            GrammarAmbiguity x = Edge.full();
            EDGE.due("23: seed " + row[0], x.drawTree(row[0], 8), row[1] % trees);
            EDGE.due("23: of 1", x.drawTree(row[0], 1), row[1] % 3);
        }
        long top = 1L << 62;
        long[] ys = {-1, -2, Long.MIN_VALUE, Long.MIN_VALUE + 1, Long.MAX_VALUE, 0, 1, 2};
        long[] halves = {top - 1 + top, top - 1 + top, top, top, top - 1, 0, 0, 1};
        for (int i = 0; i < ys.length; i++) {
            GrammarAmbiguity x = Edge.full();
            EDGE.due("23: y is " + ys[i], x.drawTree(Edge.seedFor(ys[i]), 8),
                    halves[i] % trees);
        }
    }

    /** "It becomes the current tree, and its yield becomes the current word." */
    private static void drawReplacesWordAndTree() {
        GrammarAmbiguity x = Edge.full();
        x.drawTree(3, 1);
        EDGE.due("23: one terminal", x.wordLength(), 1);
        EDGE.due("23: one node", x.treeSize(), 1);
        EDGE.due("23: in the language", x.treeCount(), 1L);
        x.drawTree(3, 8);
        EDGE.due("23: eight terminals", x.wordLength(), 8);
        EDGE.due("23: fifteen nodes", x.treeSize(), 15);
        GrammarAmbiguity y = Look.pairs();
        EDGE.noTree("23: before", y);
        y.drawTree(3, 2);
        EDGE.due("23: into an empty word", y.wordLength(), 2);
        EDGE.due("23: where there was no tree", y.treeSize(), 3);
    }

    // Promise 24.

    private static void takeFirstAndLast() {
        GrammarAmbiguity x = Edge.full();
        EDGE.due("24: first", x.takeTree(0), 15);
        EDGE.due("25: first", x.treeNumber(), 0L);
        EDGE.due("27: root of the first", x.treeNode(0, 0), 0);
        EDGE.due("24: last", x.takeTree(117796351L), 15);
        EDGE.due("25: last", x.treeNumber(), 117796351L);
        EDGE.due("27: root of the last", x.treeNode(0, 0), 23);
        GrammarAmbiguity y = Look.pairs();
        Look.write(y, "abab");
        y.takeTree(0);
        EDGE.due("24: first of five", Look.tree(y),
                "0@0+4 1@0+1 0@1+3 2@1+1 0@2+2 1@2+1 2@3+1");
        y.takeTree(4);
        EDGE.due("24: last of five", Look.tree(y),
                "0@0+4 0@0+3 0@0+2 1@0+1 2@1+1 1@2+1 2@3+1");
    }

    /** "if there is no such tree": from 0 to one less than the trees of the word. */
    private static void takeNumber() {
        long[] counts = {5, 117796352L, 1};
        Edge.Make[] makes = {EdgeTreeTest::pairs, Edge::full, EdgeTreeTest::even};
        for (int i = 0; i < 3; i++) {
            long trees = counts[i];
            Edge.Make make = makes[i];
            EDGE.taken("24: 0", make, x -> x.takeTree(0));
            EDGE.taken("24: the last", make, x -> x.takeTree(trees - 1));
            long[] wrong = {-1, trees, trees + 1, -trees, Long.MIN_VALUE, Long.MIN_VALUE + 1,
                Long.MAX_VALUE, Long.MAX_VALUE - 1, 1L << 32, -(1L << 32), (1L << 32) + trees - 1,
                1L << 62, Integer.MIN_VALUE, Integer.MAX_VALUE};
            for (long number : wrong) {
                EDGE.refused("24: " + number + " of " + trees, make, Edge.ELEMENT,
                        x -> x.takeTree(number));
            }
        }
    }

    private static void takeOfEmptyWord() {
        for (long number : new long[] {0, 1, -1, Long.MIN_VALUE, Long.MAX_VALUE}) {
            EDGE.refused("24: empty word", written(Edge::full, ""), Edge.ELEMENT,
                    x -> x.takeTree(number));
            EDGE.refused("24: new", GrammarAmbiguity::new, Edge.ELEMENT,
                    x -> x.takeTree(number));
        }
    }

    private static void takeOfWordNotInLanguage() {
        for (String letters : new String[] {"a", "ba", "aab", "abababab"}) {
            EDGE.refused("24: " + letters, written(EdgeTreeTest::even, letters), Edge.ELEMENT,
                    x -> x.takeTree(0));
        }
    }

    /** "at most one current tree": another one, or the same, takes its place. */
    private static void takeReplacesTheTree() {
        GrammarAmbiguity x = pairs();
        x.takeTree(4);
        EDGE.due("24: another", x.treeNumber(), 4L);
        x.takeTree(4);
        EDGE.due("24: the same", x.treeNumber(), 4L);
        EDGE.due("24: its size", x.treeSize(), 7);
        EDGE.due("24: the word stays", Look.word(x), "abab");
        EDGE.due("24: the grammar stays", x.productionCount(), 3);
    }

    /** "Returns the number of nodes of the tree": 1 to 15. */
    private static void takeReturnsTheSize() {
        GrammarAmbiguity x = Look.bench(1, 1, 0, 0, 0, -1, 0, 10, -1, -1);
        for (int length = 1; length <= 8; length++) {
            x.append(0);
            EDGE.due("24: nodes of " + length, x.takeTree(0), 2 * length - 1);
            EDGE.due("26: nodes of " + length, x.treeSize(), 2 * length - 1);
        }
        // Three terminals in one node.
        GrammarAmbiguity y = Look.bench(1, 1, 0, 10, 10, 10);
        Look.write(y, "aaa");
        EDGE.due("24: one node", y.takeTree(0), 1);
    }

    // Promise 25.

    /** "IllegalStateException if there is no current tree". */
    private static void numberOfNoTree() {
        EDGE.refused("25: new", GrammarAmbiguity::new, Edge.STATE, x -> x.treeNumber());
        EDGE.refused("25: a word alone", written(Edge::full, "abc"), Edge.STATE,
                x -> x.treeNumber());
        EDGE.refused("25: discarded", () -> {
            GrammarAmbiguity x = Edge.full();
            x.removeUseless();
            return x;
        }, Edge.STATE, x -> x.treeNumber());
        EDGE.taken("25: taken", Edge::full, x -> x.treeNumber());
    }

    /** "the number of the tree, from 0". */
    private static void numberFromZero() {
        GrammarAmbiguity x = Look.pairs();
        Look.write(x, "bbbbb");
        for (int i = 0; i < 14; i++) {
            x.takeTree(i);
            EDGE.due("25: number", x.treeNumber(), (long) i);
        }
        EDGE.due("25: of a full workbench", Edge.full().treeNumber(), Edge.FULL_TREE);
    }

    /** "among the trees of the current word", not among those of its length. */
    private static void numberAmongTreesOfTheWord() {
        GrammarAmbiguity x = Look.pairs();
        for (int i = 0; i < 16; i++) {
            x.drawTree(Edge.seedFor(2 * i), 3);
            EDGE.due("25: of a drawn tree", x.treeNumber(), (long) (i / 8));
        }
        GrammarAmbiguity y = Edge.full();
        y.drawTree(Edge.seedFor(2 * (772861865472L - 1)), 8);
        EDGE.due("25: of the last tree of all", y.treeNumber(), y.treeCount() - 1);
        y.drawTree(Edge.seedFor(0), 8);
        EDGE.due("25: of the first tree of all", y.treeNumber(), 0L);
        // A drawn tree is the one that is taken by its number.
        for (long seed : new long[] {7, -7, Long.MAX_VALUE, Long.MIN_VALUE}) {
            GrammarAmbiguity z = Edge.full();
            z.drawTree(seed, 8);
            String tree = Edge.tree(z);
            z.takeTree(z.treeNumber());
            EDGE.due("25: drawn and taken", Edge.tree(z), tree);
        }
    }

    /** With one terminal, a tree has the same number among those of its length and its word. */
    private static void numberOfDrawnTrees() {
        // One node alone can have another one before it: 0 -> 1 1 and 0 -> a a.
        GrammarAmbiguity x = Look.bench(2, 1, 0, 1, 1, -1, 0, 10, 10, -1, 1, 10, -1, -1);
        for (int i = 0; i < 2; i++) {
            x.drawTree(Edge.seedFor(2 * i), 2);
            EDGE.due("25: of one node or three", x.treeNumber(), (long) i);
        }
        // Parts of all three places, with lengths and trees that differ.
        int[] threes = {0, 0, 0, 0, 0, 0, 0, -1, 0, 10, -1, -1, 0, 10, 0, 10, 0, 10, 10, -1};
        for (int length = 1; length <= 4; length++) {
            long trees = Look.bench(1, 1, threes).treesOfLength(length);
            for (int i = 0; i < trees; i++) {
                GrammarAmbiguity y = Look.bench(1, 1, threes);
                EDGE.due("23: number", y.drawTree(Edge.seedFor(2 * i), length), (long) i);
                EDGE.due("25: number", y.treeNumber(), (long) i);
                String tree = Edge.tree(y);
                y.takeTree(i);
                EDGE.due("24: the same tree", Edge.tree(y), tree);
            }
        }
        for (int i = 0; i < 100; i++) {
            GrammarAmbiguity y = Look.bench(1, 1, threes);
            long number = y.drawTree(i, 8);
            EDGE.due("25: number of 8", y.treeNumber(), number);
        }
    }

    // Promises 26 and 27.

    /** "IllegalStateException if there is no current tree". */
    private static void sizeOfNoTree() {
        EDGE.refused("26: new", GrammarAmbiguity::new, Edge.STATE, x -> x.treeSize());
        EDGE.refused("26: a word alone", written(Edge::full, "abcabcab"), Edge.STATE,
                x -> x.treeSize());
    }

    private static void sizeLeastAndGreatest() {
        GrammarAmbiguity x = Edge.full();
        EDGE.due("26: greatest", x.treeSize(), 15);
        x.takeWord(1, 0);
        x.takeTree(0);
        EDGE.due("26: least", x.treeSize(), 1);
        // Up to three terminals in a node: a long word with few nodes.
        GrammarAmbiguity y = Look.bench(2, 1, 0, 1, 1, 10, 1, 10, 10, 10, 1, 10, 10, -1);
        Look.write(y, "aaaaaaa");
        EDGE.due("26: three nodes of 7", y.takeTree(0), 3);
    }

    /** "IllegalStateException if there is no current tree". */
    private static void nodeOfNoTree() {
        for (int what = 0; what < 3; what++) {
            int tried = what;
            EDGE.refused("27: new", GrammarAmbiguity::new, Edge.STATE,
                    x -> x.treeNode(0, tried));
            EDGE.refused("27: a word alone", written(Edge::full, "abcabcab"), Edge.STATE,
                    x -> x.treeNode(0, tried));
        }
    }

    /** "IndexOutOfBoundsException if there is no such node". */
    private static void nodeRange() {
        EDGE.range("27: of 15", Edge::full, 0, 14, Edge.INDEX, (x, n) -> x.treeNode(n, 0));
        EDGE.range("27: of 7", Edge::some, 0, 6, Edge.INDEX, (x, n) -> x.treeNode(n, 1));
        // A smaller tree behind a greater one: the nodes of the latter are gone.
        Edge.Make one = () -> {
            GrammarAmbiguity x = Edge.full();
            x.drawTree(1, 1);
            return x;
        };
        EDGE.range("27: of 1", one, 0, 0, Edge.INDEX, (x, n) -> x.treeNode(n, 2));
    }

    /** "IllegalArgumentException if what is out of range". */
    private static void whatRange() {
        EDGE.range("27: what of the root", Edge::full, 0, 2, Edge.ARGUMENT,
                (x, n) -> x.treeNode(0, n));
        EDGE.range("27: what of the last node", Edge::full, 0, 2, Edge.ARGUMENT,
                (x, n) -> x.treeNode(14, n));
    }

    /** The least and greatest begins and lengths: 0 and 7, 1 and 8; productions 0 and 23. */
    private static void nodeBeginsAndLengths() {
        GrammarAmbiguity x = Edge.full();
        x.takeTree(0);
        EDGE.due("27: the first production", x.treeNode(0, 0), 0);
        EDGE.due("27: the first position", x.treeNode(0, 1), 0);
        EDGE.due("27: the greatest length", x.treeNode(0, 2), 8);
        EDGE.due("27: the last position", x.treeNode(14, 1), 7);
        EDGE.due("27: the least length", x.treeNode(14, 2), 1);
        x.takeTree(117796351L);
        EDGE.due("27: the last production", x.treeNode(0, 0), 23);
        // Terminals have no nodes, but take room: before, between and behind.
        GrammarAmbiguity y = Look.bench(2, 2, 0, 10, 1, 10, 1, 1, 11, 1, 1, 10, -1, -1);
        Look.write(y, "aababaa");
        EDGE.due("14: two trees", y.treeCount(), 2L);
        y.takeTree(0);
        EDGE.due("27: the short first part first", Look.tree(y),
                "0@0+7 1@1+5 2@1+1 1@3+3 2@3+1 2@5+1");
        y.takeTree(1);
        EDGE.due("27: the long one second", Look.tree(y),
                "0@0+7 1@1+5 1@1+3 2@1+1 2@3+1 2@5+1");
    }
}
