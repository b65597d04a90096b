/** Promises 10 to 13 and 19 to 22: the current word, and words by their ranks. */
public final class WordTest {
    private static final Class<?> ARGUMENT = IllegalArgumentException.class;
    private static final Class<?> STATE = IllegalStateException.class;
    private static final Class<?> INDEX = IndexOutOfBoundsException.class;
    private static final Class<?> ELEMENT = java.util.NoSuchElementException.class;
    private static final int LEAST = Integer.MIN_VALUE;
    private static final int MOST = Integer.MAX_VALUE;
    private static final Check CHECK = new Check("WordTest");

    public static void main(String[] args) {
        append();
        clearWord();
        terminalAt();
        firstAmbiguous();
        wordRank();
        takeWord();
        drawWord();
        CHECK.end();
    }

    /** S -> aSb | ab | c, so that the words are c, ab, acb, aabb, aacbb and so on. */
    private static GrammarAmbiguity nested() {
        return Look.bench(1, 3, 0, 10, 0, 11, 0, 10, 11, -1, 0, 12, -1, -1);
    }

    private static void append() {
        GrammarAmbiguity x = Look.pairs();
        for (int i = 1; i <= 8; i++) {
            for (int wrong : new int[] {-1, 2, 10, LEAST, MOST}) {
                CHECK.refused("10: " + wrong, x, ARGUMENT, () -> x.append(wrong));
            }
            CHECK.due("10: length " + i, x.append(i % 2), i);
            CHECK.due("12: length " + i, x.wordLength(), i);
        }
        x.takeTree(428);
        CHECK.refused("10: a ninth", x, STATE, () -> x.append(0));
        CHECK.refused("10: wrong and a ninth", x, ARGUMENT, () -> x.append(2));
        CHECK.due("10: the word", Look.word(x), "babababa");
        Look.write(x, "ab");
        x.takeTree(0);
        x.append(1);
        CHECK.due("10: the tree is gone", Look.tree(x), "");
    }

    private static void clearWord() {
        GrammarAmbiguity x = Look.pairs();
        x.drawTree(5, 4);
        CHECK.due("11: length", x.clearWord(), 4);
        CHECK.due("12: none", x.wordLength(), 0);
        CHECK.due("11: the tree is gone", Look.tree(x), "");
        CHECK.due("11: the grammar stays", x.productionCount(), 3);
        CHECK.due("11: again", x.clearWord(), 0);
    }

    private static void terminalAt() {
        GrammarAmbiguity x = Look.bench(1, 3);
        CHECK.refused("13: in the empty word", x, INDEX, () -> x.terminalAt(0));
        Look.write(x, "cab");
        CHECK.due("13: 0", x.terminalAt(0), 2);
        CHECK.due("13: 1", x.terminalAt(1), 0);
        CHECK.due("13: 2", x.terminalAt(2), 1);
        for (int wrong : new int[] {-1, 3, 7, 8, LEAST, MOST}) {
            CHECK.refused("13: " + wrong, x, INDEX, () -> x.terminalAt(wrong));
        }
        x.append(2);
        x.clearWord();
        x.append(1);
        CHECK.refused("13: an old terminal", x, INDEX, () -> x.terminalAt(1));
    }

    private static void firstAmbiguous() {
        GrammarAmbiguity x = Look.pairs();
        x.drawTree(5, 4);
        for (int wrong : new int[] {0, 7, -1, LEAST, MOST}) {
            CHECK.refused("19: " + wrong, x, ARGUMENT, () -> x.firstAmbiguous(wrong));
        }
        CHECK.refused("19: none of 2", x, ELEMENT, () -> x.firstAmbiguous(2));
        CHECK.due("19: at the limit", x.firstAmbiguous(3), 3);
        CHECK.due("19: the word", Look.word(x), "aaa");
        CHECK.due("19: the tree is gone", Look.tree(x), "");
        CHECK.due("19: below the limit", x.firstAmbiguous(6), 3);

        // Of the words of 3, aaa has one tree and bab has two.
        GrammarAmbiguity z = Look.bench(2, 2, 0, 0, 10, 0, 0, 11, -1, -1, 0, 11, 10, 11,
                0, 10, 10, 10);
        CHECK.due("19: not the first word", z.firstAmbiguous(3), 3);
        CHECK.due("19: but this", Look.word(z), "bab");
        CHECK.due("19: with two trees", z.treeCount(), 2L);

        // The shorter word comes first though it is greater.
        z = Look.bench(3, 3, 0, 1, 2, -1, 0, 2, 1, -1, 1, 12, -1, -1, 2, 12, -1, -1,
                0, 10, 0, -1, 0, 10, 12, -1);
        CHECK.due("19: short before long", z.firstAmbiguous(6), 2);
        CHECK.due("19: cc", Look.word(z), "cc");
        GrammarAmbiguity y = nested();
        CHECK.refused("19: none at all", y, ELEMENT, () -> y.firstAmbiguous(6));
    }

    private static void wordRank() {
        GrammarAmbiguity x = Look.bench(1, 3, 0, 0, 0, -1, 0, 10, -1, -1, 0, 12, -1, -1);
        CHECK.refused("20: empty", x, STATE, () -> x.wordRank());
        Look.write(x, "acca");
        CHECK.due("20: in binary", x.wordRank(), 6);
        x.takeTree(2);
        CHECK.due("20: again", x.wordRank(), 6);
        CHECK.due("20: the tree stays", x.treeNumber(), 2L);
        Look.write(x, "c");
        CHECK.due("20: of one terminal", x.wordRank(), 1);
        Look.write(x, "cccccc");
        CHECK.due("20: the last", x.wordRank(), 63);
        Look.write(x, "ab");
        CHECK.refused("20: not in the language", x, ELEMENT, () -> x.wordRank());
        Look.write(x, "acccccc");
        CHECK.refused("20: seven", x, STATE, () -> x.wordRank());
        Look.write(x, "abccccc");
        CHECK.refused("20: seven, not in it", x, STATE, () -> x.wordRank());
    }

    private static void takeWord() {
        GrammarAmbiguity x = Look.bench(1, 3, 0, 0, 0, -1, 0, 10, -1, -1, 0, 12, -1, -1);
        String[] words = {"aaa", "aac", "aca", "acc", "caa", "cac", "cca", "ccc"};
        for (int rank = 0; rank < 8; rank++) {
            x.takeWord(3, rank);
            CHECK.due("21: rank " + rank, Look.word(x), words[rank]);
            CHECK.due("20: rank " + rank, x.wordRank(), rank);
        }
        x.drawTree(9, 8);
        CHECK.refused("21: rank 8", x, ELEMENT, Check.call(() -> x.takeWord(3, 8)));
        CHECK.refused("21: great rank", x, ELEMENT, Check.call(() -> x.takeWord(1, MOST)));
        int[][] wrong = {{0, 0}, {7, 0}, {-1, 0}, {LEAST, 0}, {MOST, 0}, {1, -1}, {6, LEAST},
            {7, -1}};
        for (int[] pair : wrong) {
            CHECK.refused("21: " + pair[0] + ", " + pair[1], x, ARGUMENT,
                    Check.call(() -> x.takeWord(pair[0], pair[1])));
        }
        x.takeWord(6, 63);
        CHECK.due("21: the last", Look.word(x), "cccccc");
        CHECK.due("21: the tree is gone", Look.tree(x), "");
        GrammarAmbiguity y = nested();
        CHECK.due("21: words of 5", y.wordsOfLength(5, 3), 1);
        y.takeWord(5, 0);
        CHECK.due("21: nested", Look.word(y), "aacbb");
        CHECK.refused("21: rank 1", y, ELEMENT, Check.call(() -> y.takeWord(5, 1)));
        GrammarAmbiguity z = new GrammarAmbiguity();
        CHECK.refused("21: no words", z, ELEMENT, Check.call(() -> z.takeWord(1, 0)));
    }

    private static void drawWord() {
        GrammarAmbiguity x = Look.pairs();
        CHECK.due("22: as told", x.drawWord(12, 4), 5);
        CHECK.due("22: the word", Look.word(x), "abab");
        x.drawTree(9, 8);
        for (int wrong : new int[] {0, 7, -1, LEAST, MOST}) {
            CHECK.refused("22: " + wrong, x, ARGUMENT, () -> x.drawWord(1, wrong));
        }
        // y is the summand itself, and the half of it is odd: 721347520444481703.
        CHECK.due("22: seed 0", x.drawWord(0, 1), 1);
        CHECK.due("22: the tree is gone", Look.tree(x), "");
        CHECK.due("22: seed 0 of 64", x.drawWord(0, 6), (int) (721347520444481703L % 64));
        // seed -1: y is negative, and its half by >>> is not.
        long half = (1442695040888963407L - 6364136223846793005L) >>> 1;
        CHECK.due("22: seed -1", x.drawWord(-1, 6), (int) (half % 64));
        half = (Long.MIN_VALUE + 1442695040888963407L) >>> 1;
        CHECK.due("22: the least seed", x.drawWord(Long.MIN_VALUE, 6), (int) (half % 64));
        GrammarAmbiguity y = Look.bench(1, 3, 0, 0, 0, -1, 0, 10, -1, -1, 0, 11, -1, -1,
                0, 12, -1, -1);
        CHECK.due("22: of 729", y.drawWord(0, 6), (int) (721347520444481703L % 729));
        CHECK.due("22: its rank", y.wordRank(), (int) (721347520444481703L % 729));
        GrammarAmbiguity z = nested();
        Look.write(z, "acb");
        z.takeTree(0);
        CHECK.due("22: one word", z.drawWord(1, 5), 0);
        CHECK.due("22: the only one", Look.word(z), "aacbb");
        z.removeProduction(2);
        CHECK.refused("22: no words", z, ELEMENT, () -> z.drawWord(1, 3));
        uniform();
    }

    /** The odd halves of neighbouring seeds reach every word. */
    private static void uniform() {
        int[] drawn = new int[9];
        for (int seed = 0; seed < 450; seed++) {
            GrammarAmbiguity x = Look.bench(1, 3, 0, 10, -1, -1, 0, 11, -1, -1, 0, 12, -1, -1,
                    0, 0, 0, -1);
            int rank = x.drawWord(seed, 2);
            CHECK.due("22: rank of seed " + seed, x.wordRank(), rank);
            drawn[rank]++;
        }
        for (int rank = 0; rank < 9; rank++) {
            CHECK.due("22: rank " + rank + " drawn about 50 times", drawn[rank] > 25, true);
        }
    }
}
