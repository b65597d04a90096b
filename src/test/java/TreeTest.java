/** Promises 23 to 27: the current tree. */
public final class TreeTest {
    private static final Class<?> ARGUMENT = IllegalArgumentException.class;
    private static final Class<?> STATE = IllegalStateException.class;
    private static final Class<?> INDEX = IndexOutOfBoundsException.class;
    private static final Class<?> ELEMENT = java.util.NoSuchElementException.class;
    private static final int LEAST = Integer.MIN_VALUE;
    private static final int MOST = Integer.MAX_VALUE;
    private static final Check CHECK = new Check("TreeTest");

    public static void main(String[] args) {
        orderOfTrees();
        productionsDecideFirst();
        drawTree();
        drawsOfEveryTree();
        oneTerminal();
        takeTree();
        noTree();
        treeNode();
        CHECK.end();
    }

    /** S -> SSS | SS | a. */
    private static GrammarAmbiguity threes() {
        return Look.bench(1, 1, 0, 0, 0, 0, 0, 0, 0, -1, 0, 10, -1, -1);
    }

    private static void orderOfTrees() {
        GrammarAmbiguity x = threes();
        Look.write(x, "aaaa");
        String[] trees = {
            "0@0+4 2@0+1 2@1+1 1@2+2 2@2+1 2@3+1",
            "0@0+4 2@0+1 1@1+2 2@1+1 2@2+1 2@3+1",
            "0@0+4 1@0+2 2@0+1 2@1+1 2@2+1 2@3+1",
            "1@0+4 2@0+1 0@1+3 2@1+1 2@2+1 2@3+1",
            "1@0+4 2@0+1 1@1+3 2@1+1 1@2+2 2@2+1 2@3+1",
            "1@0+4 2@0+1 1@1+3 1@1+2 2@1+1 2@2+1 2@3+1",
            "1@0+4 1@0+2 2@0+1 2@1+1 1@2+2 2@2+1 2@3+1",
            "1@0+4 0@0+3 2@0+1 2@1+1 2@2+1 2@3+1",
            "1@0+4 1@0+3 2@0+1 1@1+2 2@1+1 2@2+1 2@3+1",
            "1@0+4 1@0+3 1@0+2 2@0+1 2@1+1 2@2+1 2@3+1"
        };
        for (int i = trees.length - 1; i >= 0; i--) {
            CHECK.due("24: size " + i, x.takeTree(i), trees[i].split(" ").length);
            CHECK.due("24: tree " + i, Look.tree(x), trees[i]);
            CHECK.due("25: number " + i, x.treeNumber(), (long) i);
            CHECK.due("26: size " + i, x.treeSize(), trees[i].split(" ").length);
        }
        CHECK.refused("24: 10", x, ELEMENT, () -> x.takeTree(10));

        // Two parts with two trees each: the left one decides before the right one.
        GrammarAmbiguity y = Look.bench(2, 2, 0, 1, 10, 1, 1, 1, 1, -1, 1, 11, -1, -1);
        Look.write(y, "bbbabbb");
        String[] lefts = {"1@0+3 2@0+1 1@1+2 2@1+1 2@2+1 ", "1@0+3 1@0+2 2@0+1 2@1+1 2@2+1 "};
        String[] rights = {"1@4+3 2@4+1 1@5+2 2@5+1 2@6+1", "1@4+3 1@4+2 2@4+1 2@5+1 2@6+1"};
        for (int i = 0; i < 4; i++) {
            y.takeTree(i);
            CHECK.due("24: pair " + i, Look.tree(y), "0@0+7 " + lefts[i / 2] + rights[i % 2]);
        }
    }

    /** The number of a production goes before the lengths of the parts, whatever its form. */
    private static void productionsDecideFirst() {
        GrammarAmbiguity x = Look.bench(2, 1, 0, 1, 10, -1, 0, 10, 1, -1, 0, 10, 10, 10,
                0, 1, 1, 10, 0, 10, 1, 1, 1, 10, 10, -1, 1, 10, -1, -1);
        Look.write(x, "aaa");
        String[] trees = {"0@0+3 5@0+2", "1@0+3 5@1+2", "2@0+3", "3@0+3 6@0+1 6@1+1",
            "4@0+3 6@1+1 6@2+1"};
        CHECK.due("14: five trees", x.treeCount(), 5L);
        for (int i = 0; i < 5; i++) {
            x.takeTree(i);
            CHECK.due("24: by production " + i, Look.tree(x), trees[i]);
        }
        x.removeProduction(0);
        x.addProduction(0, 1, 10, -1);
        x.takeTree(4);
        CHECK.due("24: renumbered", Look.tree(x), "6@0+3 4@0+2");
    }

    private static void drawTree() {
        GrammarAmbiguity x = Look.pairs();
        CHECK.due("23: as told", x.drawTree(12, 5), 309L);
        CHECK.due("25: as told", x.treeNumber(), 10L);
        CHECK.due("26: its size", x.treeSize(), 9);
        CHECK.due("23: its word", x.wordLength(), 5);
        Look.write(x, "bbbbbbbb");
        x.takeTree(3);
        for (int wrong : new int[] {0, 9, -1, 10, LEAST, MOST}) {
            CHECK.refused("23: " + wrong, x, ARGUMENT, () -> x.drawTree(1, wrong));
        }
        CHECK.due("23: length 1", x.drawTree(0, 1), 1L);
        CHECK.due("23: b", Look.word(x), "b");
        CHECK.due("23: node", Look.tree(x), "2@0+1");
        CHECK.due("23: length 8", x.drawTree(-1, 8),
                ((1442695040888963407L - 6364136223846793005L) >>> 1) % (429L << 8));
        CHECK.due("23: nodes", x.treeSize(), 15);
        GrammarAmbiguity y = Look.bench(1, 2, 0, 10, 0, 11, 0, 10, 11, -1);
        y.drawTree(4, 6);
        CHECK.due("23: the only one", Look.tree(y), "0@0+6 0@1+4 1@2+2");
        CHECK.due("23: its yield", Look.word(y), "aaabbb");
        CHECK.refused("23: none", y, ELEMENT, () -> y.drawTree(4, 5));
        GrammarAmbiguity z = new GrammarAmbiguity();
        CHECK.refused("23: none at all", z, ELEMENT, () -> z.drawTree(4, 1));
    }

    /** Seeds reach all trees of a length, and their order is that of the numbers. */
    private static void drawsOfEveryTree() {
        int[] grammar = {0, 0, 1, -1, 0, 10, -1, -1, 1, 0, 0, -1, 1, 11, -1, -1, 0, 11, 1, 10};
        Model m = new Model();
        m.reset(2, 2);
        for (int i = 0; i < grammar.length; i += 4) {
            m.addProduction(grammar[i], grammar[i + 1], grammar[i + 2], grammar[i + 3]);
        }
        long trees = m.treesOfLength(5);
        boolean[] drawn = new boolean[(int) trees];
        for (int seed = 0; seed < 600; seed++) {
            GrammarAmbiguity x = Look.bench(2, 2, grammar);
            int number = (int) x.drawTree(seed, 5);
            CHECK.due("23: seed " + seed, (long) number, m.drawTree(seed, 5));
            CHECK.due("25: seed " + seed, x.treeNumber(), m.treeNumber());
            CHECK.due("26: seed " + seed, x.treeSize(), m.treeSize());
            String tree = Look.tree(x);
            x.takeTree(x.treeNumber());
            CHECK.due("24: the drawn one, taken", Look.tree(x), tree);
            drawn[number] = true;
        }
        for (int i = 0; i < trees; i++) {
            CHECK.due("23: drawn " + i, drawn[i], true);
        }
    }

    /** With one terminal, all trees of a length are trees of one word, in the same order. */
    private static void oneTerminal() {
        int[] grammar = {0, 0, 0, 0, 1, 10, -1, -1, 0, 1, 0, -1, 0, 0, 10, 1, 0, 10, -1, -1,
            1, 0, 1, -1, 1, 10, 10, -1};
        for (int length = 1; length <= 8; length++) {
            for (int seed = 0; seed < 100; seed++) {
                GrammarAmbiguity x = Look.bench(2, 1, grammar);
                long number = x.drawTree(seed, length);
                String tree = Look.tree(x);
                CHECK.due("25: of " + length + " by " + seed, x.treeNumber(), number);
                x.takeTree(number);
                CHECK.due("24: of " + length + " by " + seed, Look.tree(x), tree);
            }
        }
    }

    private static void takeTree() {
        GrammarAmbiguity x = Look.pairs();
        CHECK.refused("24: of the empty word", x, ELEMENT, () -> x.takeTree(0));
        Look.write(x, "abab");
        CHECK.refused("24: 5", x, ELEMENT, () -> x.takeTree(5));
        CHECK.due("24: 4", x.takeTree(4), 7);
        long[] wrong = {-1, 5, Long.MIN_VALUE, Long.MAX_VALUE, 1L << 32, (1L << 32) + 1};
        for (long number : wrong) {
            CHECK.refused("24: " + number, x, ELEMENT, () -> x.takeTree(number));
        }
        CHECK.due("25: it stays", x.treeNumber(), 4L);
        CHECK.due("24: another", x.takeTree(0), 7);
        CHECK.due("25: another", x.treeNumber(), 0L);
        CHECK.due("24: the word stays", Look.word(x), "abab");
        x.reset(1, 2);
        x.append(1);
        CHECK.refused("24: without productions", x, ELEMENT, () -> x.takeTree(0));
    }

    private static void noTree() {
        GrammarAmbiguity x = Look.pairs();
        Look.write(x, "ab");
        CHECK.refused("25: none", x, STATE, () -> x.treeNumber());
        CHECK.refused("26: none", x, STATE, () -> x.treeSize());
        CHECK.refused("27: none", x, STATE, () -> x.treeNode(0, 0));
        CHECK.refused("27: none, wrong node", x, STATE, () -> x.treeNode(-1, 0));
        CHECK.refused("27: none, wrong what", x, STATE, () -> x.treeNode(0, 3));
        x.takeTree(0);
        x.treeCount();
        x.treesOfLength(10);
        x.wordsOfLength(6, 2);
        x.shortestLength(0);
        x.wordRank();
        x.snapshot();
        x.allocate(0, true, 9);
        x.setElement(0, 0, 1);
        x.storeCounts(0, 0);
        CHECK.due("27: it stays", Look.tree(x), "0@0+2 1@0+1 2@1+1");
    }

    private static void treeNode() {
        GrammarAmbiguity x = Look.bench(2, 3, 0, 10, 1, 0, 0, 12, -1, -1, 1, 11, 11, -1);
        Look.write(x, "abbabbc");
        CHECK.due("24: nodes", x.takeTree(0), 5);
        int[][] due = {{0, 0, 7}, {2, 1, 2}, {0, 3, 4}, {2, 4, 2}, {1, 6, 1}};
        for (int node = 0; node < 5; node++) {
            for (int what = 0; what < 3; what++) {
                CHECK.due("27: " + node + ", " + what, x.treeNode(node, what), due[node][what]);
            }
        }
        for (int node : new int[] {-1, 5, 14, 15, LEAST, MOST}) {
            CHECK.refused("27: node " + node, x, INDEX, () -> x.treeNode(node, 0));
            CHECK.refused("27: node before what", x, INDEX, () -> x.treeNode(node, 3));
        }
        for (int what : new int[] {-1, 3, LEAST, MOST}) {
            CHECK.refused("27: what " + what, x, ARGUMENT, () -> x.treeNode(4, what));
        }
    }
}
