/** Promises 14 to 18: numbers of trees and of words. */
public final class CountTest {
    private static final Class<?> ARGUMENT = IllegalArgumentException.class;
    private static final Class<?> ELEMENT = java.util.NoSuchElementException.class;
    private static final int LEAST = Integer.MIN_VALUE;
    private static final int MOST = Integer.MAX_VALUE;
    private static final long[] CATALAN = {1, 1, 2, 5, 14, 42, 132, 429, 1430, 4862};
    private static final Check CHECK = new Check("CountTest");

    public static void main(String[] args) {
        treeCount();
        treesOfLength();
        greatNumbers();
        wordsOfLength();
        averages();
        countsAfterChanges();
        CHECK.end();
    }

    private static void treeCount() {
        GrammarAmbiguity x = Look.pairs();
        CHECK.due("14: empty", x.treeCount(), 0L);
        for (int length = 1; length <= 8; length++) {
            x.append(length % 2);
            CHECK.due("14: length " + length, x.treeCount(), CATALAN[length - 1]);
        }
        x = Look.bench(1, 3, 0, 10, 0, 11, 0, 10, 11, -1);
        Look.write(x, "aaabbb");
        CHECK.due("14: nested", x.treeCount(), 1L);
        Look.write(x, "aabab");
        CHECK.due("14: not in the language", x.treeCount(), 0L);
        // S -> SSS | SS | a: the little Schroeder numbers.
        x = Look.bench(1, 1, 0, 0, 0, 0, 0, 0, 0, -1, 0, 10, -1, -1);
        long[] due = {1, 1, 3, 10, 38, 154, 654, 2871};
        for (int length = 1; length <= 8; length++) {
            x.append(0);
            CHECK.due("14: threes and twos, " + length, x.treeCount(), due[length - 1]);
        }
        x = new GrammarAmbiguity();
        x.append(1);
        CHECK.due("14: without productions", x.treeCount(), 0L);
    }

    private static void treesOfLength() {
        GrammarAmbiguity x = Look.pairs();
        for (int length = 1; length <= 10; length++) {
            CHECK.due("15: length " + length, x.treesOfLength(length),
                    CATALAN[length - 1] << length);
        }
        for (int wrong : new int[] {0, 11, -1, LEAST, MOST}) {
            CHECK.refused("15: " + wrong, x, ARGUMENT, () -> x.treesOfLength(wrong));
        }
        x.drawTree(2, 5);
        x.treesOfLength(10);
        CHECK.due("15: the tree stays", x.treeSize(), 9);
        CHECK.due("15: none", new GrammarAmbiguity().treesOfLength(10), 0L);
    }

    /** 24 productions with more trees of length 10 than an int or a float can tell. */
    private static void greatNumbers() {
        GrammarAmbiguity x = new GrammarAmbiguity();
        Model m = new Model();
        x.reset(3, 3);
        m.reset(3, 3);
        int[][] productions = {
            {0, 1, 2, -1}, {0, 2, 1, -1}, {1, 11, -1, -1}, {1, 1, 1, -1}, {1, 2, 0, -1},
            {0, 0, 0, -1}, {2, 0, 0, -1}, {0, 1, 1, -1}, {1, 0, 1, -1}, {0, 0, 1, -1},
            {1, 12, -1, -1}, {0, 2, 0, -1}, {1, 10, -1, -1}, {2, 11, -1, -1}, {0, 11, -1, -1},
            {2, 10, -1, -1}, {0, 10, -1, -1}, {0, 0, 2, -1}, {1, 0, 2, -1}, {0, 12, -1, -1},
            {1, 1, 0, -1}, {1, 0, 0, -1}, {2, 12, -1, -1}, {0, 1, 0, -1}
        };
        for (int[] p : productions) {
            x.addProduction(p[0], p[1], p[2], p[3]);
            m.addProduction(p[0], p[1], p[2], p[3]);
        }
        for (int length = 1; length <= 10; length++) {
            CHECK.due("15: great, " + length, x.treesOfLength(length), m.treesOfLength(length));
        }
        CHECK.due("15: great", x.treesOfLength(10), 2608875131902560L);
        CHECK.due("18: great", x.averageTrees(6), m.treesOfLength(6) / 729.0);
        long number = x.drawTree(77, 8);
        CHECK.due("23: great", number, ((77 * 6364136223846793005L + 1442695040888963407L) >>> 1)
                % m.treesOfLength(8));
        Look.write(x, "abcabcab");
        for (int i = 0; i < 8; i++) {
            m.append(i % 3);
        }
        CHECK.due("14: great", x.treeCount(), m.treeCount());
        long last = x.treeCount() - 1;
        CHECK.due("24: the last of many", x.takeTree(last), 15);
        CHECK.due("25: the last of many", x.treeNumber(), last);
        CHECK.refused("24: none behind it", x, ELEMENT, () -> x.takeTree(last + 1));
    }

    private static void wordsOfLength() {
        // Unambiguous are a, b and their pairs; the words with c are not in the language.
        GrammarAmbiguity x = Look.bench(1, 3, 0, 0, 0, -1, 0, 10, -1, -1, 0, 11, -1, -1);
        int[][] due = {{1, 2, 0, 2}, {5, 4, 0, 4}, {19, 0, 8, 8}, {65, 0, 16, 16},
            {211, 0, 32, 32}, {665, 0, 64, 64}};
        for (int length = 6; length >= 1; length--) {
            for (int trees = 0; trees <= 3; trees++) {
                CHECK.due("16: " + length + ", " + trees, x.wordsOfLength(length, trees),
                        due[length - 1][trees]);
            }
        }
        int[][] wrong = {{0, 0}, {7, 3}, {-1, 1}, {LEAST, 0}, {MOST, 0}, {1, -1}, {6, 4},
            {3, LEAST}, {3, MOST}, {0, 4}};
        for (int[] pair : wrong) {
            CHECK.refused("16: " + pair[0] + ", " + pair[1], x, ARGUMENT,
                    () -> x.wordsOfLength(pair[0], pair[1]));
        }
        GrammarAmbiguity y = Look.bench(2, 1, 0, 10, 1, -1);
        CHECK.due("16: one terminal", y.wordsOfLength(6, 0), 1);
        GrammarAmbiguity z = new GrammarAmbiguity();
        CHECK.due("16: two terminals", z.wordsOfLength(6, 0), 64);
        CHECK.due("16: no language", z.wordsOfLength(6, 3), 0);
        // aab and abb have one tree each, and so has aa: but ab has two.
        GrammarAmbiguity u = Look.bench(3, 2, 0, 1, 2, -1, 0, 10, 11, -1, 1, 10, -1, -1,
                2, 11, -1, -1, 1, 10, 10, -1, 2, 11, 11, -1, 0, 10, 10, -1);
        CHECK.due("16: ambiguous of 2", u.wordsOfLength(2, 2), 1);
        CHECK.due("16: unambiguous of 2", u.wordsOfLength(2, 1), 1);
        CHECK.due("16: unambiguous of 3", u.wordsOfLength(3, 1), 2);
        CHECK.due("16: unambiguous of 4", u.wordsOfLength(4, 3), 1);
        CHECK.due("17: a half", u.unambiguousShare(2), 0.5);
        CHECK.due("18: three trees, two words", u.averageTrees(2), 1.5);
    }

    private static void averages() {
        GrammarAmbiguity x = Look.pairs();
        double[] shares = {1.0, 1.0, 0.0, 0.0, 0.0, 0.0};
        for (int length = 1; length <= 6; length++) {
            CHECK.due("17: " + length, x.unambiguousShare(length), shares[length - 1]);
            CHECK.due("18: " + length, x.averageTrees(length), (double) CATALAN[length - 1]);
        }
        for (int wrong : new int[] {0, 7, -1, 10, LEAST, MOST}) {
            CHECK.refused("17: " + wrong, x, ARGUMENT, () -> x.unambiguousShare(wrong));
            CHECK.refused("18: " + wrong, x, ARGUMENT, () -> x.averageTrees(wrong));
        }
        // S -> aS | Sb | a | b: of the words of 3, aaa and bbb have one tree; aab and abb more.
        GrammarAmbiguity y = Look.bench(1, 2, 0, 10, 0, -1, 0, 0, 11, -1, 0, 10, -1, -1,
                0, 11, -1, -1);
        CHECK.due("17: two of four", y.unambiguousShare(3), 0.5);
        CHECK.due("17: two of five", y.unambiguousShare(4), 2.0 / 5.0);
        CHECK.due("18: eight by four", y.averageTrees(3), 2.0);
        CHECK.due("18: sixteen by five", y.averageTrees(4), 16.0 / 5.0);
        y.removeProduction(3);
        CHECK.due("17: the one word has one tree", y.unambiguousShare(1), 1.0);
        y.reset(1, 1);
        y.addProduction(0, 0, 0, -1);
        y.addProduction(0, 10, -1, -1);
        CHECK.due("17: the one word has two trees", y.unambiguousShare(3), 0.0);
        y.reset(1, 2);
        CHECK.due("17: none", y.unambiguousShare(6), 1.0);
        CHECK.refused("18: none", y, ELEMENT, () -> y.averageTrees(6));
        y.addProduction(0, 10, 11, -1);
        CHECK.due("17: none of 1", y.unambiguousShare(1), 1.0);
        CHECK.refused("18: none of 1", y, ELEMENT, () -> y.averageTrees(1));
        CHECK.due("18: one of 2", y.averageTrees(2), 1.0);
    }

    /** What has been counted for a grammar is not told of the next one. */
    private static void countsAfterChanges() {
        GrammarAmbiguity x = Look.pairs();
        CHECK.due("16: before", x.wordsOfLength(6, 2), 64);
        x.snapshot();
        x.removeProduction(2);
        CHECK.due("15: behind a removal", x.treesOfLength(6), 42L);
        CHECK.due("16: behind a removal", x.wordsOfLength(6, 2), 1);
        x.addProduction(0, 11, 11, -1);
        CHECK.due("15: behind an addition", x.treesOfLength(2), 2L);
        CHECK.due("16: behind an addition", x.wordsOfLength(2, 3), 2);
        x.restore();
        CHECK.due("15: restored", x.treesOfLength(6), 42L << 6);
        CHECK.due("16: restored", x.wordsOfLength(6, 2), 64);
        x.reset(1, 3);
        CHECK.due("15: reset", x.treesOfLength(6), 0L);
        CHECK.due("16: reset", x.wordsOfLength(6, 0), 729);
        x.restore();
        x.reset(2, 2);
        x.addProduction(0, 1, 1, -1);
        x.addProduction(1, 10, -1, -1);
        CHECK.due("16: of the start", x.wordsOfLength(2, 1), 1);
        x.setStart(1);
        CHECK.due("16: of another start", x.wordsOfLength(2, 1), 0);
        CHECK.due("15: of another start", x.treesOfLength(1), 1L);
        x.removeUseless();
        x.setStart(0);
        CHECK.due("16: behind removeUseless", x.wordsOfLength(2, 1), 0);
        CHECK.due("15: behind removeUseless", x.treesOfLength(2), 0L);
    }
}
